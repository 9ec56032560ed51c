/-! the net as the class and as the model hold it -/
def WF (n : Nat) (adj : Nat → Nat → Bool) : Prop := n ≤ 32 ∧ (∀ p q, adj p q = adj q p) ∧ (∀ p, adj p p = false) ∧ ∀ p q, adj p q = true → p < n ∧ q < n
def Lb (near : Nat → Int32) (adj : Nat → Nat → Bool) : Prop := ∀ p, p < 32 → ∀ q, q < 32 → bt (near p) q = adj p q
def Mb (road : Nat → Int32) (adj : Nat → Nat → Bool) : Prop := ∀ p, p < 32 → ∀ q, q < 32 → road (32 * p + q) = bI (adj p q)
def setA (adj : Nat → Nat → Bool) (p q : Nat) (v : Bool) : Nat → Nat → Bool := fun a b => if (a = p ∧ b = q) ∨ (a = q ∧ b = p) then v else adj a b
theorem WF_setA {n p q : Nat} {adj : Nat → Nat → Bool} {v : Bool} (h : WF n adj) (hp : p < n) (hq : q < n) (hpq : p ≠ q) : WF n (setA adj p q v) := by
  obtain ⟨h1, h2, h3, h4⟩ := h
  refine ⟨h1, fun a b => ?_, fun a => ?_, fun a b => ?_⟩
  · unfold setA
    by_cases c : (a = p ∧ b = q) ∨ (a = q ∧ b = p)
    · rw [if_pos c, if_pos (by omega)]
    · rw [if_neg c, if_neg (by omega), h2]
  · unfold setA
    rw [if_neg (by omega), h3]
  · unfold setA
    by_cases c : (a = p ∧ b = q) ∨ (a = q ∧ b = p)
    · rw [if_pos c]; intro _; omega
    · rw [if_neg c]; exact h4 a b
theorem WF_empty {n : Nat} (h : n ≤ 32) : WF n (fun _ _ => false) := ⟨h, fun _ _ => rfl, fun _ => rfl, fun _ _ h => by cases h⟩
theorem JA_fillI_s {n : Nat} (hn : n < 2 ^ 31) (v : Int32) (f : Nat → Int32) : JA_fillI v n f = some (fa_fill (fun _ => v) f n) := by
  unfold JA_fillI
  apply ok_eq
  refine loop_ok (fun F (s : Int32 × Int32 × Int32 × (Nat → Int32)) => JA_fillI_l5 n F s.1 s.2.1 s.2.2.1 s.2.2.2) (fun i s => s = (v, nI i, nI n, fa_fill (fun _ => v) f i)) n (fuel_big (by omega)) ?_ ?_ 0 (Nat.zero_le _) (v, 0, Int32.ofNat n, f) ?_
  · rintro i hi s rfl F ih
    show Ok (JA_fillI_l5 n (F + 1) v (nI i) (nI n) _) _
    rw [JA_fillI_l5_s]
    unfold JA_fillI_n5
    refine ok_f (nI_ge hi (by omega)) (ok_g (inb_nI hi (by omega)) ?_)
    rw [cl_nI (by omega)]
    exact ih (v, nI i + 1, nI n, upd (fa_fill (fun _ => v) f i) i v) (by rw [nI_1]; exact congrArg (fun g => (v, nI (i + 1), nI n, g)) (fa_fill_succ (fun _ => v) f i))
  · rintro s rfl F
    show Ok (JA_fillI_l5 n (F + 1) v (nI n) (nI n) _) _
    rw [JA_fillI_l5_s]
    unfold JA_fillI_n5 JA_fillI_n20
    exact ok_t (nI_le (Nat.le_refl n) (by omega)) (ok_s rfl)
  · rw [fa_fill_0]; rfl
theorem Net_empty_s (x : Int32) (size : Int32) (near : Nat → Int32) : Net_empty x size near = some (x, fa_fill (fun _ => 0) near 32) := by
  unfold Net_empty
  rw [bnd_at (JA_fillI_s (by decide) 0 near)]
theorem Lb_empty (near : Nat → Int32) : Lb (fa_fill (fun _ => 0) near 32) (fun _ _ => false) := by
  intro p hp q _
  rw [fa_fill_in hp, b_0]
theorem Net_areJoined_s {x y : Int32} {n : Nat} {near : Nat → Int32} {adj : Nat → Nat → Bool} (hn : n ≤ 32) (hb : Lb near adj) : Net_areJoined x y (nI n) near = some (bI (inb x n && inb y n && adj x.toNatClampNeg y.toNatClampNeg)) := by
  unfold Net_areJoined Net_areJoined_n33 Net_areJoined_n34
  rw [bnd_at (Net_has_s (by omega))]
  cases hx : inb x n
  · rfl
  · rw [if_neg (by decide), bnd_at (Net_has_s (by omega))]
    cases hy : inb y n
    · rfl
    · obtain ⟨p, hp, rfl⟩ := inb_of hx (by omega)
      obtain ⟨q, hq, rfl⟩ := inb_of hy (by omega)
      rw [if_neg (by decide), gd_t (inb_nI (by omega) (by omega)), cl_nI (by omega), cl_nI (by omega), bnd_at (LN_isIn_s _ (by omega)), hb p (by omega) q (by omega)]
      cases adj p q <;> rfl
theorem Net_join_s {p q n : Nat} {near : Nat → Int32} {adj : Nat → Nat → Bool} (hn : n ≤ 32) (hp : p < n) (hq : q < n) (hpq : p ≠ q) (hb : Lb near adj) : Ok (Net_join (nI p) (nI q) (nI n) near) (fun w => Lb w (setA adj p q true)) := by
  unfold Net_join Net_join_n33
  refine ok_e (Net_mayJoin_s (by omega)) ?_
  rw [inb_nI hp (by omega), inb_nI hq (by omega), decide_eq_false ((nI_ne (by omega) (by omega)).mpr hpq)]
  refine ok_f (by decide) (ok_g (inb_nI (by omega) (by omega)) (ok_l (ok_g (inb_nI (by omega) (by omega)) (ok_l (ok_s ?_)))))
  rw [cl_nI (by omega), cl_nI (by omega)]
  intro a ha b hbb
  unfold setA
  by_cases c2 : a = q
  · subst c2
    rw [updS, b_or, updN (by omega), b_one (by omega) hbb, hb a ha b hbb]
    by_cases c : b = p
    · subst c; simp
    · rw [decide_eq_false c, Bool.or_false, if_neg (by omega)]
  · rw [updN c2]
    by_cases c1 : a = p
    · subst c1
      rw [updS, b_or, b_one (by omega) hbb, hb a ha b hbb]
      by_cases c : b = q
      · subst c; simp
      · rw [decide_eq_false c, Bool.or_false, if_neg (by omega)]
    · rw [updN c1, hb a ha b hbb, if_neg (by omega)]
theorem Net_part_s {p q n : Nat} {near : Nat → Int32} {adj : Nat → Nat → Bool} (hn : n ≤ 32) (hp : p < n) (hq : q < n) (hpq : p ≠ q) (hb : Lb near adj) : Ok (Net_part (nI p) (nI q) (nI n) near) (fun w => Lb w (setA adj p q false)) := by
  unfold Net_part Net_part_n37
  refine ok_e (Net_mayJoin_s (by omega)) ?_
  rw [inb_nI hp (by omega), inb_nI hq (by omega), decide_eq_false ((nI_ne (by omega) (by omega)).mpr hpq)]
  refine ok_f (by decide) (ok_g (inb_nI (by omega) (by omega)) (ok_l (ok_g (inb_nI (by omega) (by omega)) (ok_l (ok_s ?_)))))
  rw [cl_nI (by omega), cl_nI (by omega)]
  intro a ha b hbb
  unfold setA
  by_cases c2 : a = q
  · subst c2
    rw [updS, b_and, b_xor, b_m1 b hbb, updN (by omega), b_one (by omega) hbb, hb a ha b hbb]
    by_cases c : b = p
    · subst c; simp
    · rw [decide_eq_false c, if_neg (by omega)]; simp
  · rw [updN c2]
    by_cases c1 : a = p
    · subst c1
      rw [updS, b_and, b_xor, b_m1 b hbb, b_one (by omega) hbb, hb a ha b hbb]
      by_cases c : b = q
      · subst c; simp
      · rw [decide_eq_false c, if_neg (by omega)]; simp
    · rw [updN c1, hb a ha b hbb, if_neg (by omega)]
/-! the model's net -/
theorem idx32 {p q : Nat} (hp : p < 32) (hq : q < 32) : 32 * p + q < 1024 := by omega
theorem idx_inj {p q a b : Nat} (hq : q < 32) (hb : b < 32) (h : 32 * p + q = 32 * a + b) : p = a ∧ q = b := by omega
theorem M_lay_s {p q : Nat} {v : Bool} {k1 k2 : Int32} {road : Nat → Int32} {adj : Nat → Nat → Bool} (hp : p < 32) (hq : q < 32) (hb : Mb road adj) : Ok (M_lay (nI p) (nI q) (bI v) k1 k2 road) (fun z => z.1 = bI (adj p q != v) ∧ z.2.1 = 0 ∧ z.2.2.1 = 0 ∧ Mb z.2.2.2 (setA adj p q v)) := by
  unfold M_lay
  have fin : ∀ t : Bool, Ok (M_lay_n20 (nI p) (nI q) (bI v) (bI t) k1 k2 road) (fun z => z.1 = bI t ∧ z.2.1 = 0 ∧ z.2.2.1 = 0 ∧ Mb z.2.2.2 (setA adj p q v)) := by
    intro t
    unfold M_lay_n20
    rw [i32, i32]
    refine ok_g (inb_nI (by omega) (by omega)) (ok_g (isb_bI v) (ok_g (inb_nI (by omega) (by omega)) (ok_g (isb_bI t) (ok_s ⟨rfl, rfl, rfl, ?_⟩))))
    intro a ha b hbb
    show upd (upd road _ _) _ _ _ = _
    rw [cl_nI (by omega), cl_nI (by omega)]
    unfold setA
    by_cases c1 : a = q ∧ b = p
    · obtain ⟨rfl, rfl⟩ := c1
      rw [updS, if_pos (by omega)]
    · rw [updN (by omega)]
      by_cases c2 : a = p ∧ b = q
      · obtain ⟨rfl, rfl⟩ := c2
        rw [updS, if_pos (by omega)]
      · rw [updN (by omega), hb a ha b hbb, if_neg (by omega)]
  rw [i32]
  refine ok_g (inb_nI (by omega) (by omega)) ?_
  rw [cl_nI (by omega), hb p hp q hq]
  by_cases c : bI (adj p q) = bI v
  · rw [if_pos c, show (adj p q != v) = false by rw [bI_inj] at c; rw [c]; simp]
    exact fin false
  · rw [if_neg c, show (adj p q != v) = true by rw [bI_inj] at c; simpa using c]
    exact fin true
