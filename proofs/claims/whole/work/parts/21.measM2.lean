/-! the model's measure -/
def wv (d : Nat) : Nat := if d < 33 then d else 99
theorem wy_wv (d : Nat) : wy d = nI (wv d) := by
  unfold wy wv
  by_cases h : d < 33
  · rw [if_pos h, if_pos h]
  · rw [if_neg h, if_neg h]; rfl
theorem wv_le (d : Nat) : wv d ≤ 99 := by
  unfold wv
  split <;> omega
/-- the least of its heap -/
def frst (adj : Nat → Nat → Bool) (n a : Nat) : Bool := decide (∀ y, y < a → ¬ dN adj n a y < 33)
/-- the greatest of the rows below p, and of row p up to q -/
def FM (adj : Nat → Nat → Bool) (n p q F : Nat) : Prop := F ≤ 99 ∧ (∀ a b, a < p → b < n → wv (dN adj n a b) ≤ F) ∧ (∀ b, b < q → wv (dN adj n p b) ≤ F) ∧ (F = 0 ∨ ∃ a b, a < n ∧ b < n ∧ wv (dN adj n a b) = F)
def MW (adj : Nat → Nat → Bool) (n : Nat) (far heaps : Int32) (w : Nat → Int32) : Prop := (∀ p, p < n → ∀ q, q < 32 → w (32 * p + q) = wy (dN adj n p q)) ∧ (∃ F, far = nI F ∧ FM adj n n 0 F) ∧ heaps = nI (fb_ct (frst adj n) n)
theorem M_measure_s {n : Nat} {road w0 : Nat → Int32} {f0 g0 : Int32} {adj : Nat → Nat → Bool} (hw : WF n adj) (hb : Mb road adj) : Ok (M_measure f0 g0 0 (nI n) road w0) (fun z => z.2.2.1 = 1 ∧ MW adj n z.1 z.2.1 z.2.2.2) := by
  have hn := hw.1
  unfold M_measure
  refine ok_t rfl ?_
  refine loop_ok (fun F (s : Int32 × Int32 × Int32 × (Nat → Int32)) => M_measure_l25 (nI n) road F s.1 s.2.1 s.2.2.1 1 s.2.2.2) (fun p s => s.1 = nI p ∧ (∃ G, s.2.1 = nI G ∧ FM adj n p 0 G) ∧ s.2.2.1 = nI (fb_ct (frst adj n) p) ∧ ∀ a, a < p → ∀ q, q < 32 → s.2.2.2 (32 * a + q) = wy (dN adj n a q)) n (fuel_big (by omega)) ?_ ?_ 0 (Nat.zero_le _) (0, 0, 0, w0) ⟨rfl, ⟨0, rfl, by omega, fun a b h => absurd h (Nat.not_lt_zero a), fun b h => absurd h (Nat.not_lt_zero b), Or.inl rfl⟩, rfl, fun a h => absurd h (Nat.not_lt_zero a)⟩
  · rintro p hp ⟨s1, s2, s3, w⟩ ⟨e1, ⟨G, e2, hG⟩, e3, e4⟩ F ih
    obtain rfl : s1 = nI p := e1
    obtain rfl : s2 = nI G := e2
    obtain rfl : s3 = nI (fb_ct (frst adj n) p) := e3
    have e4 : ∀ a, a < p → ∀ q, q < 32 → w (32 * a + q) = wy (dN adj n a q) := e4
    show Ok (M_measure_l25 (nI n) road (F + 1) (nI p) (nI G) (nI _) 1 w) _
    rw [M_measure_l25_s]
    unfold M_measure_n25
    refine ok_f (nI_ge hp (by omega)) (ok_b (M_measureFrom_s hw hb hp) (fun w1 hw1 => ?_))
    have e5 : ∀ a, a < p + 1 → ∀ q, q < 32 → w1 (32 * a + q) = wy (dN adj n a q) := by
      intro a ha q hq
      by_cases e : a = p
      · subst e; exact hw1.1 q hq
      · rw [hw1.2 _ (by omega)]; exact e4 a (by omega) q hq
    refine loop_ok (fun F2 (s : Int32 × Int32 × Int32) => M_measure_l42 (fun x1 v_far v_heaps v_isMeasured v_wayOf => M_measure_l25 (nI n) road F x1 v_far v_heaps v_isMeasured v_wayOf) (nI n) F2 (nI p) s.1 s.2.1 s.2.2 (nI (fb_ct (frst adj n) p)) 1 w1) (fun q s => s.1 = bI (decide (∀ y, y < q → y < p → ¬ dN adj n p y < 33)) ∧ s.2.1 = nI q ∧ ∃ G, s.2.2 = nI G ∧ FM adj n p q G) n (fuel_big (by omega)) ?_ ?_ 0 (Nat.zero_le _) (1, 0, nI G) ⟨by rw [decide_eq_true (fun y h => absurd h (Nat.not_lt_zero y))]; rfl, rfl, G, rfl, hG⟩
    · rintro q hq ⟨t1, t2, t3⟩ ⟨d1, d2, G1, d3, hG1⟩ F2 ih2
      obtain rfl : t1 = bI _ := d1
      obtain rfl : t2 = nI q := d2
      obtain rfl : t3 = nI G1 := d3
      show Ok (M_measure_l42 _ (nI n) (F2 + 1) (nI p) (bI _) (nI q) (nI G1) _ 1 w1) _
      rw [M_measure_l42_s]
      unfold M_measure_n42
      have fin : ∀ (t : Int32) (G2 : Nat), t = nI G2 → FM adj n p (q + 1) G2 → Ok (M_measure_n87 (fun x1 x2 x3 v_far v_heaps v_isMeasured v_wayOf => M_measure_l42 (fun x1 v_far v_heaps v_isMeasured v_wayOf => M_measure_l25 (nI n) road F x1 v_far v_heaps v_isMeasured v_wayOf) (nI n) F2 x1 x2 x3 v_far v_heaps v_isMeasured v_wayOf) (nI p) (bI (decide (∀ y, y < q → y < p → ¬ dN adj n p y < 33))) (nI q) t (nI G1) (nI (fb_ct (frst adj n) p)) 1 w1) (fun z => z.2.2.1 = 1 ∧ MW adj n z.1 z.2.1 z.2.2.2) := by
        rintro t G2 rfl hG2
        unfold M_measure_n87 M_measure_n119 M_measure_n115 M_measure_n120
        have go : ∀ v : Bool, v = decide (∀ y, y < q + 1 → y < p → ¬ dN adj n p y < 33) → Ok (M_measure_l42 (fun x1 v_far v_heaps v_isMeasured v_wayOf => M_measure_l25 (nI n) road F x1 v_far v_heaps v_isMeasured v_wayOf) (nI n) F2 (nI p) (bI v) (nI q + 1) (nI G2) (nI (fb_ct (frst adj n) p)) 1 w1) (fun z => z.2.2.1 = 1 ∧ MW adj n z.1 z.2.1 z.2.2.2) := fun v hv => ih2 (bI v, nI q + 1, nI G2) ⟨by rw [hv], nI_1 q, G2, rfl, hG2⟩
        by_cases c : ∀ y, y < q → y < p → ¬ dN adj n p y < 33
        · rw [decide_eq_true c]
          refine ok_f (by decide) (ok_i (fun c2 => ?_) (fun c2 => ?_))
          · refine go true (Eq.symm (decide_eq_true (fun y h1 h2 => ?_)))
            have := (nI_leI (by omega) (by omega)).mp c2
            exact c y (by omega) h2
          · have c3 : q < p := by
              rcases Nat.lt_or_ge q p with g | g
              · exact g
              · exact absurd (nI_le g (by omega)) c2
            rw [i32]
            refine ok_g (inb_nI (by omega) (by omega)) ?_
            rw [cl_nI (by omega), e5 p (by omega) q (by omega), wy_wv, lit99]
            have := wv_le (dN adj n p q)
            refine ok_i (fun c4 => ?_) (fun c4 => ?_)
            · rw [nI_eq (by omega) (by omega)] at c4
              have c5 : ¬ dN adj n p q < 33 := fun g => by unfold wv at c4; rw [if_pos g] at c4; omega
              refine go true (Eq.symm (decide_eq_true (fun y h1 h2 => ?_)))
              by_cases e : y = q
              · rw [e]; exact c5
              · exact c y (by omega) h2
            · rw [nI_eq (by omega) (by omega)] at c4
              have c5 : dN adj n p q < 33 := by
                rcases Nat.lt_or_ge (dN adj n p q) 33 with g | g
                · exact g
                · unfold wv at c4; rw [if_neg (by omega)] at c4; exact absurd rfl c4
              exact go false (Eq.symm (decide_eq_false (fun h => h q (by omega) c3 c5)))
        · rw [decide_eq_false c]
          exact ok_t (by decide) (go false (Eq.symm (decide_eq_false (fun h => c (fun y h1 h2 => h y (by omega) h2)))))
      rw [i32]
      refine ok_f (nI_ge hq (by omega)) (ok_g (inb_nI (by omega) (by omega)) ?_)
      rw [cl_nI (by omega), e5 p (by omega) q (by omega), wy_wv]
      have h99 := wv_le (dN adj n p q)
      obtain ⟨g1, g2, g3, g4⟩ := hG1
      refine ok_i (fun c => fin _ G1 rfl ⟨g1, g2, fun b hb9 => ?_, g4⟩) (fun c => fin _ (wv (dN adj n p q)) rfl ⟨h99, fun a b h1 h2 => ?_, fun b hb9 => ?_, Or.inr ⟨p, q, hp, hq, rfl⟩⟩)
      · have c := (nI_leI (by omega) (by omega)).mp c
        by_cases e : b = q
        · rw [e]; exact c
        · exact g3 b (by omega)
      · have c : G1 < wv (dN adj n p q) := by
          rcases Nat.lt_or_ge G1 (wv (dN adj n p q)) with g | g
          · exact g
          · exact absurd ((nI_leI (by omega) (by omega)).mpr g) c
        have := g2 a b h1 h2
        omega
      · have c : G1 < wv (dN adj n p q) := by
          rcases Nat.lt_or_ge G1 (wv (dN adj n p q)) with g | g
          · exact g
          · exact absurd ((nI_leI (by omega) (by omega)).mpr g) c
        by_cases e : b = q
        · rw [e]; exact Nat.le_refl _
        · have := g3 b (by omega)
          omega
    · rintro ⟨t1, t2, t3⟩ ⟨d1, d2, G1, d3, hG1⟩ F2
      obtain rfl : t1 = bI _ := d1
      obtain rfl : t2 = nI n := d2
      obtain rfl : t3 = nI G1 := d3
      show Ok (M_measure_l42 _ (nI n) (F2 + 1) (nI p) (bI _) (nI n) (nI G1) _ 1 w1) _
      rw [M_measure_l42_s]
      unfold M_measure_n42 M_measure_n127 M_measure_n141
      refine ok_t (nI_le (Nat.le_refl n) (by omega)) ?_
      obtain ⟨g1, g2, g3, g4⟩ := hG1
      have hFM : FM adj n (p + 1) 0 G1 := ⟨g1, fun a b h1 h2 => by
        by_cases e : a = p
        · rw [e]; exact g3 b h2
        · exact g2 a b (by omega) h2, fun b h => absurd h (Nat.not_lt_zero b), g4⟩
      have hfr : (decide (∀ y, y < n → y < p → ¬ dN adj n p y < 33)) = frst adj n p := by
        unfold frst
        apply bt_iff
        rw [decide_eq_true_iff, decide_eq_true_iff]
        exact ⟨fun h y hy => h y (by omega) hy, fun h y _ hy => h y hy⟩
      rw [hfr]
      cases hv : frst adj n p
      · refine ok_t (by decide) (ih (nI p + 1, nI G1, nI (fb_ct (frst adj n) p) + 0, w1) ⟨nI_1 p, ⟨G1, rfl, hFM⟩, ?_, e5⟩)
        show nI (fb_ct (frst adj n) p) + 0 = _
        rw [fb_ct_succ, hv, show (0 : Int32) = nI 0 from rfl, nI_add]; rfl
      · refine ok_f (by decide) (ih (nI p + 1, nI G1, nI (fb_ct (frst adj n) p) + 1, w1) ⟨nI_1 p, ⟨G1, rfl, hFM⟩, ?_, e5⟩)
        show nI (fb_ct (frst adj n) p) + 1 = _
        rw [fb_ct_succ, hv, nI_1]; rfl
  · rintro ⟨s1, s2, s3, w⟩ ⟨e1, e2, e3, e4⟩ F
    obtain rfl : s1 = nI n := e1
    show Ok (M_measure_l25 (nI n) road (F + 1) (nI n) s2 s3 1 w) _
    rw [M_measure_l25_s]
    unfold M_measure_n25 M_measure_n151
    exact ok_t (nI_le (Nat.le_refl n) (by omega)) (ok_s ⟨rfl, e4, e2, e3⟩)
theorem M_measure_c {n : Nat} {road w0 : Nat → Int32} {f0 g0 im : Int32} {adj : Nat → Nat → Bool} (hw : WF n adj) (hb : Mb road adj) (hc : im = 0 ∨ (im = 1 ∧ MW adj n f0 g0 w0)) : Ok (M_measure f0 g0 im (nI n) road w0) (fun z => z.2.2.1 = 1 ∧ MW adj n z.1 z.2.1 z.2.2.2) := by
  rcases hc with rfl | ⟨rfl, h⟩
  · exact M_measure_s hw hb
  · unfold M_measure
    exact ok_f (by decide) (ok_s ⟨rfl, h⟩)
