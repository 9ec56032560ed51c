/-! ways: what can be reached by k roads, the least such k -/
def Rc (adj : Nat → Nat → Bool) (n : Nat) : Nat → Nat → Nat → Bool
  | 0, p, q => decide (p = q)
  | k + 1, p, q => Rc adj n k p q || decide (0 < fb_ct (fun x => Rc adj n k p x && adj x q) n)
/-- the way, 33 if there is none -/
def dN (adj : Nat → Nat → Bool) (n p q : Nat) : Nat := fa_first (fun k => Rc adj n k p q) 33
section DIST
variable {adj : Nat → Nat → Bool} {n : Nat}
theorem Rc_zero {p q : Nat} : Rc adj n 0 p q = true ↔ p = q := by unfold Rc; exact decide_eq_true_iff
theorem Rc_succ {k p q : Nat} : Rc adj n (k + 1) p q = true ↔ Rc adj n k p q = true ∨ ∃ x, x < n ∧ Rc adj n k p x = true ∧ adj x q = true := by
  show (Rc adj n k p q || decide (0 < fb_ct (fun x => Rc adj n k p x && adj x q) n)) = true ↔ _
  rw [Bool.or_eq_true, decide_eq_true_iff, fb_ct_pos]
  simp only [Bool.and_eq_true]
theorem Rc_mono {k p q : Nat} (h : Rc adj n k p q = true) : Rc adj n (k + 1) p q = true := Rc_succ.mpr (Or.inl h)
theorem Rc_le {j k p q : Nat} (hjk : j ≤ k) (h : Rc adj n j p q = true) : Rc adj n k p q = true := by
  obtain ⟨d, rfl⟩ : ∃ d, k = j + d := ⟨k - j, by omega⟩
  clear hjk
  induction d with
  | zero => exact h
  | succ d ih => exact Rc_mono ih
theorem Rc_step {k p x q : Nat} (hx : x < n) (h : Rc adj n k p x = true) (ha : adj x q = true) : Rc adj n (k + 1) p q = true := Rc_succ.mpr (Or.inr ⟨x, hx, h, ha⟩)
theorem Rc_lt (hw : WF n adj) {k p q : Nat} (hp : p < n) (h : Rc adj n k p q = true) : q < n := by
  induction k generalizing q with
  | zero => rw [← Rc_zero.mp h]; exact hp
  | succ k ih =>
    rcases Rc_succ.mp h with h | ⟨x, -, -, ha⟩
    · exact ih h
    · exact (hw.2.2.2 x q ha).2
theorem Rc_front {k p x q : Nat} (hp : p < n) (ha : adj p x = true) (h : Rc adj n k x q = true) : Rc adj n (k + 1) p q = true := by
  induction k generalizing q with
  | zero =>
    rw [← Rc_zero.mp h]
    exact Rc_step hp (Rc_zero.mpr rfl) ha
  | succ k ih =>
    rcases Rc_succ.mp h with h | ⟨y, hy, h, hb⟩
    · exact Rc_mono (ih h)
    · exact Rc_step hy (ih h) hb
theorem Rc_sym (hw : WF n adj) {k p q : Nat} (h : Rc adj n k p q = true) : Rc adj n k q p = true := by
  induction k generalizing q with
  | zero => rw [Rc_zero] at h ⊢; exact h.symm
  | succ k ih =>
    rcases Rc_succ.mp h with h | ⟨x, hx, h, ha⟩
    · exact Rc_mono (ih h)
    · exact Rc_front (hw.2.2.2 x q ha).2 (by rw [hw.2.1]; exact ha) (ih h)
theorem dN_le (p q : Nat) : dN adj n p q ≤ 33 := fa_first_le _ _
theorem dN_yes {p q : Nat} (h : dN adj n p q < 33) : Rc adj n (dN adj n p q) p q = true := fa_first_yes (fun k => Rc adj n k p q) 33 h
theorem dN_no {k p q : Nat} (h : k < dN adj n p q) : Rc adj n k p q = false := fa_first_no (fun k => Rc adj n k p q) 33 k h
theorem Rc_iff {k p q : Nat} (hk : k < 33) : Rc adj n k p q = true ↔ dN adj n p q ≤ k := by
  constructor
  · intro h
    rcases Nat.lt_or_ge k (dN adj n p q) with c | c
    · rw [dN_no c] at h; cases h
    · exact c
  · intro h
    exact Rc_le h (dN_yes (by omega))
theorem dN_self (p : Nat) : dN adj n p p = 0 := Nat.le_zero.mp ((Rc_iff (by omega)).mp (Rc_zero.mpr rfl))
theorem dN_zero {p q : Nat} : dN adj n p q = 0 ↔ p = q := by
  constructor
  · intro h
    exact Rc_zero.mp ((Rc_iff (adj := adj) (n := n) (k := 0) (by omega)).mpr (by omega))
  · rintro rfl; exact dN_self p
theorem dN_sym (hw : WF n adj) (p q : Nat) : dN adj n p q = dN adj n q p := by
  have key : ∀ a b, dN adj n a b < 33 → dN adj n b a ≤ dN adj n a b := fun a b h => (Rc_iff h).mp (Rc_sym hw (dN_yes h))
  have h1 := dN_le (adj := adj) (n := n) p q
  have h2 := dN_le (adj := adj) (n := n) q p
  have k1 := key p q
  have k2 := key q p
  omega
theorem dN_lt (hw : WF n adj) {p q : Nat} (hp : p < n) (h : dN adj n p q < 33) : q < n := Rc_lt hw hp (dN_yes h)
/-- the post before the last -/
theorem dN_pred {k p q : Nat} (hk : k + 1 < 33) (h : dN adj n p q = k + 1) : ∃ x, x < n ∧ dN adj n p x = k ∧ adj x q = true := by
  have h1 : Rc adj n (k + 1) p q = true := (Rc_iff hk).mpr (by omega)
  have h2 : Rc adj n k p q = false := dN_no (by omega)
  rcases Rc_succ.mp h1 with c | ⟨x, hx, hr, ha⟩
  · rw [h2] at c; cases c
  · refine ⟨x, hx, ?_, ha⟩
    have h3 := (Rc_iff (show k < 33 by omega)).mp hr
    rcases Nat.lt_or_ge (dN adj n p x) k with c | c
    · have := Rc_step hx ((Rc_iff (adj := adj) (n := n) (p := p) (k := k - 1) (by omega)).mpr (by omega)) ha
      rw [show k - 1 + 1 = k by omega, h2] at this
      cases this
    · omega
theorem dN_chain {p : Nat} : ∀ (k q : Nat), k < 33 → q < n → dN adj n p q = k → ∃ f : Nat → Nat, ∀ j, j ≤ k → f j < n ∧ dN adj n p (f j) = j := by
  intro k
  induction k with
  | zero =>
    intro q _ hq h
    refine ⟨fun _ => q, fun j hj => ⟨hq, ?_⟩⟩
    rw [h]
    exact (Nat.le_zero.mp hj).symm
  | succ k ih =>
    intro q hk hq h
    obtain ⟨x, hx, h1, -⟩ := dN_pred hk h
    obtain ⟨f, hf⟩ := ih x (by omega) hx h1
    refine ⟨fun j => if j = k + 1 then q else f j, fun j hj => ?_⟩
    show (if j = k + 1 then q else f j) < n ∧ dN adj n p (if j = k + 1 then q else f j) = j
    by_cases e : j = k + 1
    · rw [if_pos e, e]; exact ⟨hq, h⟩
    · rw [if_neg e]; exact hf j (by omega)
/-- a way is shorter than the posts are many -/
theorem dN_bound (hw : WF n adj) {p q : Nat} (hp : p < n) (h : dN adj n p q < 33) : dN adj n p q < n := by
  obtain ⟨f, hf⟩ := dN_chain (dN adj n p q) q h (dN_lt hw hp h) rfl
  have := fb_holes n (dN adj n p q + 1) f (fun i hi => (hf i (by omega)).1) (fun i j hij hj e => by
    have h1 := (hf i (by omega)).2
    have h2 := (hf j (by omega)).2
    rw [e] at h1
    omega)
  omega
/-- one road more -/
theorem dN_adj {p x q : Nat} (hx : x < n) (ha : adj x q = true) (h : dN adj n p x < 32) : dN adj n p q ≤ dN adj n p x + 1 := (Rc_iff (by omega)).mp (Rc_step hx (dN_yes (by omega)) ha)
theorem dN_33 (hw : WF n adj) {p x q : Nat} (hp : p < n) (ha : adj x q = true) (h : dN adj n p x < 33) : dN adj n p q < 33 := by
  have hx := (hw.2.2.2 x q ha).1
  have h1 := dN_bound hw hp h
  have h2 := hw.1
  have := dN_adj (adj := adj) (n := n) hx ha (show dN adj n p x < 32 by omega)
  omega
/-- the next layer: joined to one of this layer and not seen yet -/
theorem dN_next (hw : WF n adj) {k p q : Nat} (hk : k < 32) : dN adj n p q = k + 1 ↔ (¬ dN adj n p q ≤ k) ∧ ∃ x, x < n ∧ dN adj n p x = k ∧ adj x q = true := by
  constructor
  · intro h
    exact ⟨by omega, dN_pred (by omega) h⟩
  · rintro ⟨h1, x, hx, h2, ha⟩
    have := dN_adj (adj := adj) (n := n) (p := p) hx ha (by omega)
    omega
end DIST
