/-! how many heaps -/
theorem low_first {adj : Nat → Nat → Bool} {n p : Nat} {m : Int32} (hp : p < 32) (h : ∀ q, q < 32 → (bt m q = true ↔ dN adj n p q < 33)) : low m = p ↔ frst adj n p = true := by
  unfold frst
  rw [decide_eq_true_iff]
  constructor
  · intro e y hy hd
    have := low_no (x := m) (k := y) (by omega)
    rw [(h y (by omega)).mpr hd] at this
    cases this
  · intro g
    have hb : bt m p = true := (h p hp).mpr (by rw [dN_self]; omega)
    rcases Nat.lt_or_ge (low m) p with c | c
    · exact absurd ((h _ (by omega)).mp (low_yes (by omega))) (g _ c)
    · rcases Nat.lt_or_ge p (low m) with c2 | c2
      · rw [low_no c2] at hb; cases hb
      · omega
theorem Wy_pieces_s {n : Nat} {re : Nat → Int32} {adj : Nat → Nat → Bool} (hn : n ≤ 32) (h : ∀ p, p < n → ∀ q, q < 32 → (bt (re p) q = true ↔ dN adj n p q < 33)) : Wy_pieces (nI n) re = some (nI (fb_ct (frst adj n) n)) := by
  unfold Wy_pieces
  apply ok_eq
  refine fr2 (fun F a b => Wy_pieces_l4 (nI n) re F a b) (fun i a b => a = nI (fb_ct (frst adj n) i) ∧ b = nI i) n (fuel_big (by omega)) ?_ ?_ 0 (Nat.zero_le _) 0 0 ⟨rfl, rfl⟩
  · rintro i hi a b ⟨rfl, rfl⟩ F ih
    rw [Wy_pieces_l4_s]
    unfold Wy_pieces_n4 Wy_pieces_n28
    refine ok_f (nI_ge hi (by omega)) (ok_g (inb_nI (by omega) (by omega)) ?_)
    rw [cl_nI (by omega)]
    refine ok_e (LN_lowestBit_s _) ?_
    have hl := low_le (re i)
    cases hv : frst adj n i
    · refine ok_f (fun e => ?_) (ih _ _ ⟨by rw [fb_ct_succ, hv]; rfl, nI_1 i⟩)
      rw [nI_eq (by omega) (by omega), low_first (by omega) (h i hi), hv] at e
      cases e
    · refine ok_t ?_ (ih _ _ ⟨by rw [nI_1, fb_ct_succ, hv]; rfl, nI_1 i⟩)
      rw [nI_eq (by omega) (by omega), low_first (by omega) (h i hi), hv]
  · rintro a b ⟨rfl, rfl⟩ F
    rw [Wy_pieces_l4_s]
    unfold Wy_pieces_n4 Wy_pieces_n34
    exact ok_t (nI_le (Nat.le_refl n) (by omega)) (ok_s rfl)
theorem M_isWhole_s {n : Nat} {road w0 : Nat → Int32} {f0 g0 im : Int32} {adj : Nat → Nat → Bool} (hw : WF n adj) (hb : Mb road adj) (hc : MC adj n f0 g0 im w0) : Ok (M_isWhole f0 g0 im (nI n) road w0) (fun z => z.1 = bI (wholeB adj n) ∧ z.2.2.2.1 = 1 ∧ MW adj n z.2.1 z.2.2.1 z.2.2.2.2) := by
  have hn := hw.1
  unfold M_isWhole M_isWhole_n17
  refine ok_b (M_measure_c hw hb hc) (fun z hz => ?_)
  have hh := hz.2.2.2
  have hle := fb_ct_le (frst adj n) n
  cases hv : wholeB adj n
  · refine ok_f (fun e => ?_) (ok_g (by decide) (ok_s ⟨rfl, hz.1, hz.2⟩))
    rw [hh, show (1 : Int32) = nI 1 from rfl, nI_eq (by omega) (by omega), whole_iff hw, hv] at e
    cases e
  · refine ok_t ?_ (ok_g (by decide) (ok_s ⟨rfl, hz.1, hz.2⟩))
    rw [hh, show (1 : Int32) = nI 1 from rfl, nI_eq (by omega) (by omega), whole_iff hw, hv]
theorem LN_oneIf_s (b : Bool) : LN_oneIf (bI b) = some (bI b) := by cases b <;> rfl
