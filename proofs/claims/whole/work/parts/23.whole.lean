/-! whole nets -/
theorem dN_trans {adj : Nat → Nat → Bool} {n p q r : Nat} (hw : WF n adj) (hp : p < n) (h1 : dN adj n p q < 33) (h2 : dN adj n q r < 33) : dN adj n p r < 33 := by
  have key : ∀ k r, k < 33 → dN adj n q r = k → dN adj n p r < 33 := by
    intro k
    induction k with
    | zero => intro r _ h; rw [← dN_zero.mp h]; exact h1
    | succ k ih =>
      intro r hk h
      obtain ⟨x, -, hx, ha⟩ := dN_pred hk h
      exact dN_33 hw hp ha (ih x (by omega) hx)
  exact key _ r h2 rfl
theorem ct_one (m : Nat) : fb_ct (fun k => decide (k = 0)) (m + 1) = 1 := by
  induction m with
  | zero => rfl
  | succ m ih => rw [fb_ct_succ, ih, decide_eq_false (by omega)]; rfl
theorem whole_all {adj : Nat → Nat → Bool} {n : Nat} (hw : WF n adj) (h : wholeB adj n = true) : 0 < n ∧ ∀ p q, p < n → q < n → dN adj n p q < 33 := by
  have h := of_decide_eq_true h
  refine ⟨h.1, fun p q hp hq => ?_⟩
  exact dN_trans hw hp (by rw [dN_sym hw]; exact h.2 p hp) (h.2 q hq)
theorem whole_iff {adj : Nat → Nat → Bool} {n : Nat} (hw : WF n adj) : fb_ct (frst adj n) n = 1 ↔ wholeB adj n = true := by
  constructor
  · intro h
    have hn : 0 < n := by
      rcases Nat.lt_or_ge 0 n with g | g
      · exact g
      · rw [show n = 0 by omega] at h; cases h
    have f0 : frst adj n 0 = true := decide_eq_true (fun y hy => absurd hy (Nat.not_lt_zero y))
    have key : ∀ q, q < n → dN adj n 0 q < 33 := by
      intro q
      induction q using Nat.strongRecOn with
      | ind q ih =>
        intro hq
        by_cases e : q = 0
        · rw [e, dN_self]; omega
        · cases hf : frst adj n q
          · have hf := of_decide_eq_false hf
            have : ∃ y, y < q ∧ dN adj n q y < 33 := by
              rcases Classical.em (∃ y, y < q ∧ dN adj n q y < 33) with g | g
              · exact g
              · exact absurd (fun y hy hd => g ⟨y, hy, hd⟩) hf
            obtain ⟨y, hy, hd⟩ := this
            exact dN_trans hw hn (ih y hy (by omega)) (by rw [dN_sym hw]; exact hd)
          · have c1 : fb_ct (frst adj n) (q + 1) = fb_ct (frst adj n) q + 1 := by rw [fb_ct_succ, hf]; rfl
            have c2 : fb_ct (frst adj n) 1 ≤ fb_ct (frst adj n) q := fb_ct_mono _ (by omega)
            have c3 : fb_ct (frst adj n) (q + 1) ≤ fb_ct (frst adj n) n := fb_ct_mono _ (by omega)
            have c4 : fb_ct (frst adj n) 1 = 1 := by rw [fb_ct_succ, f0]; rfl
            omega
    exact decide_eq_true ⟨hn, key⟩
  · intro h
    have h := of_decide_eq_true h
    obtain ⟨m, rfl⟩ : ∃ m, n = m + 1 := ⟨n - 1, by omega⟩
    rw [fb_ct_cong (q := fun k => decide (k = 0)) (fun q hq => ?_), ct_one]
    by_cases e : q = 0
    · subst e; rfl
    · rw [decide_eq_false e]
      exact decide_eq_false (fun g => g 0 (by omega) (by rw [dN_sym hw]; exact h.2 q hq))
theorem far_one {adj : Nat → Nat → Bool} {n F e : Nat} (hw : WF n adj) (h : wholeB adj n = true) (h1 : FM adj n n 0 F) (h2 : LM adj n n e) : F = e := by
  obtain ⟨-, ha⟩ := whole_all hw h
  obtain ⟨-, f1, -, f2⟩ := h1
  obtain ⟨-, l1, l2⟩ := h2
  have v : ∀ p q, p < n → q < n → wv (dN adj n p q) = dN adj n p q := fun p q hp hq => by unfold wv; rw [if_pos (ha p q hp hq)]
  have a1 : F ≤ e := by
    rcases f2 with g | ⟨a, b, ha9, hb9, g⟩
    · omega
    · rw [← g, v a b ha9 hb9]; exact l1 a b ha9 (ha a b ha9 hb9)
  have a2 : e ≤ F := by
    rcases l2 with g | ⟨a, b, ha9, hb9, g⟩
    · omega
    · rw [← g, ← v a b ha9 hb9]; exact f1 a b ha9 hb9
  omega
/-! way(p, q) -/
def spWay (adj : Nat → Nat → Bool) (n : Nat) (x y : Int32) : Int32 := if inb x n = true ∧ inb y n = true then (if dN adj n x.toNatClampNeg y.toNatClampNeg < 33 then nI (dN adj n x.toNatClampNeg y.toNatClampNeg) else -8) else -1
