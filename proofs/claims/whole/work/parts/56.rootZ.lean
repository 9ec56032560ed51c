
/-! roots as whole numbers -/
def uZ (be ga : Nat → Nat) (r : Int) : Nat → Int
  | 0 => 1
  | 1 => r
  | i + 2 => (r - ia be ga (i + 1)) * uZ be ga r (i + 1) - (ga (i + 1) : Int) * (be i : Int) * uZ be ga r i
def prZ (f : Nat → Nat) : Nat → Nat → Nat
  | 0, _ => 1
  | m + 1, i => f i * prZ f m (i + 1)
def wZ (be : Nat → Nat) (d i : Nat) : Nat := prZ be (d - i) i
def gZ (ga : Nat → Nat) (d i : Nat) : Nat := prZ (fun j => ga (j + 1)) (d - i) i
theorem wZ_d (be : Nat → Nat) (d : Nat) : wZ be d d = 1 := by unfold wZ; rw [Nat.sub_self]; rfl
theorem gZ_d (ga : Nat → Nat) (d : Nat) : gZ ga d d = 1 := by unfold gZ; rw [Nat.sub_self]; rfl
theorem wZ_s (be : Nat → Nat) {d i : Nat} (h : i < d) : wZ be d i = be i * wZ be d (i + 1) := by
  unfold wZ
  obtain ⟨m, hm⟩ : ∃ m, d - i = m + 1 := ⟨d - i - 1, by omega⟩
  rw [hm, show d - (i + 1) = m by omega]
  rfl
theorem gZ_s (ga : Nat → Nat) {d i : Nat} (h : i < d) : gZ ga d i = ga (i + 1) * gZ ga d (i + 1) := by
  unfold gZ
  obtain ⟨m, hm⟩ : ∃ m, d - i = m + 1 := ⟨d - i - 1, by omega⟩
  rw [hm, show d - (i + 1) = m by omega]
  rfl
theorem prZ_pos {f : Nat → Nat} : ∀ {m i : Nat}, (∀ j, i ≤ j → j < i + m → 1 ≤ f j) → 1 ≤ prZ f m i := by
  intro m
  induction m with
  | zero => intro i _; exact Nat.le_refl 1
  | succ m ih => intro i h; exact Nat.mul_pos (h i (Nat.le_refl i) (by omega)) (ih (fun j a b => h j (by omega) (by omega)))
theorem prZ_le {f : Nat → Nat} : ∀ {m i : Nat}, (∀ j, i ≤ j → j < i + m → f j ≤ 20) → prZ f m i ≤ 20 ^ m := by
  intro m
  induction m with
  | zero => intro i _; exact Nat.le_refl 1
  | succ m ih =>
    intro i h
    rw [Nat.pow_succ, Nat.mul_comm (20 ^ m)]
    exact Nat.mul_le_mul (h i (Nat.le_refl i) (by omega)) (ih (fun j a b => h j (by omega) (by omega)))
section ROOTZ
variable {d : Nat} {be ga : Nat → Nat} {r : Int}
theorem wZ_pos (h1 : L1 d be ga) (i : Nat) : 1 ≤ wZ be d i := prZ_pos (fun j a b => (h1.2 j (by omega)).1)
theorem gZ_pos (h1 : L1 d be ga) (i : Nat) : 1 ≤ gZ ga d i := prZ_pos (fun j a b => (h1.2 j (by omega)).2)
theorem p20 {m : Nat} (h : m ≤ 5) : 20 ^ m ≤ 3200000 := Nat.le_trans (Nat.pow_le_pow_right (by decide) h) (by decide)
theorem wZ_le (hT : TT d be ga) (i : Nat) : wZ be d i ≤ 3200000 := by
  have hd := hT.1
  exact Nat.le_trans (prZ_le (fun j a b => (hT.2.1 j (by omega)).1)) (p20 (by omega))
theorem gZ_le (hT : TT d be ga) (i : Nat) : gZ ga d i ≤ 3200000 := by
  have hd := hT.1
  exact Nat.le_trans (prZ_le (fun j a b => (hT.2.1 (j + 1) (by omega)).2)) (p20 (by omega))
def xZ (be ga : Nat → Nat) (d : Nat) (r : Int) (i : Nat) : Int := uZ be ga r i * (wZ be d i : Int)
/-- X is an own row of the first thirds -/
theorem xZ_own (hT : TT d be ga) (h0 : uZ be ga r (d + 1) = 0) {l : Nat} (hl : l < d + 1) : eX d be ga (xZ be ga d r) l = r * xZ be ga d r l := by
  have hd := hT.1
  unfold eX
  by_cases c0 : l = 0
  · subst c0
    rw [if_pos rfl, if_pos (show 0 < d by omega)]
    unfold xZ ia
    rw [hT.2.2.2.1, wZ_s be (show 0 < d by omega)]
    show (0 : Int) + _ + (be 0 : Int) * (r * _) = r * (1 * _)
    rw [Int.natCast_mul]
    grind
  · obtain ⟨k, rfl⟩ : ∃ k, l = k + 1 := ⟨l - 1, by omega⟩
    rw [if_neg c0, Nat.add_sub_cancel]
    have eu : uZ be ga r (k + 2) = (r - ia be ga (k + 1)) * uZ be ga r (k + 1) - (ga (k + 1) : Int) * (be k : Int) * uZ be ga r k := rfl
    have w1 : (wZ be d k : Int) = be k * wZ be d (k + 1) := by rw [wZ_s be (show k < d by omega), Int.natCast_mul]
    by_cases c : k + 1 < d
    · rw [if_pos c]
      have w2 : (wZ be d (k + 1) : Int) = be (k + 1) * wZ be d (k + 2) := by rw [wZ_s be c, Int.natCast_mul]
      unfold xZ
      rw [eu, w1, w2]
      grind
    · rw [if_neg c]
      have e : k + 1 = d := by omega
      have e2 : uZ be ga r (k + 2) = 0 := by rw [show k + 2 = d + 1 by omega]; exact h0
      rw [e2] at eu
      unfold xZ
      rw [w1]
      grind
theorem xZ_0 : xZ be ga d r 0 = wZ be d 0 := Int.one_mul _
theorem x_third (hT : TT d be ga) (h1 : L1 d be ga) (h4 : L4 d be ga) (h6 : L6 d be ga) (h0 : uZ be ga r (d + 1) = 0) {i : Nat} (hi : i < d + 1) : ∀ j, j < d + 1 → (wZ be d 0 : Int) * fb_si (fun l => tZ d be ga j i l * xZ be ga d r l) (d + 1) = (kN be ga j : Int) * xZ be ga d r j * xZ be ga d r i := by
  have hd := hT.1
  have hbd := hT.2.2.1 d (Nat.le_refl d) (by omega)
  have key : ∀ j, j < d → ((wZ be d 0 : Int) * fb_si (fun l => tZ d be ga j i l * xZ be ga d r l) (d + 1) = (kN be ga j : Int) * xZ be ga d r j * xZ be ga d r i) ∧ (wZ be d 0 : Int) * fb_si (fun l => tZ d be ga (j + 1) i l * xZ be ga d r l) (d + 1) = (kN be ga (j + 1) : Int) * xZ be ga d r (j + 1) * xZ be ga d r i := by
    intro j
    induction j with
    | zero =>
      intro _
      refine ⟨?_, ?_⟩
      · rw [si_t0 _ hi, xZ_0]
        show _ = ((1 : Nat) : Int) * _ * _
        rw [show ((1 : Nat) : Int) = 1 from rfl, Int.one_mul]
      · rw [si_t1 hbd _ hi, xZ_own hT h0 hi, kN_s, h1.1, Nat.div_one]
        have w1 : (wZ be d 0 : Int) = be 0 * wZ be d 1 := by rw [wZ_s be (show 0 < d by omega), Int.natCast_mul]
        have e1 : xZ be ga d r 1 = r * wZ be d 1 := rfl
        have e2 : ((kN be ga 0 * be 0 : Nat) : Int) = be 0 := by show ((1 * be 0 : Nat) : Int) = be 0; rw [Nat.one_mul]
        rw [e2, e1, w1]
        grind
    | succ j ih =>
      intro hj
      obtain ⟨i0, i1⟩ := ih (by omega)
      refine ⟨i1, ?_⟩
      have hg : 1 ≤ ga (j + 2) := (h1.2 (j + 1) hj).2
      have e1 : (ga (j + 2) : Int) * fb_si (fun l => tZ d be ga (j + 2) i l * xZ be ga d r l) (d + 1) = fb_si (fun l => pZ d be ga (j + 1) i l * xZ be ga d r l) (d + 1) := by
        rw [← fb_si_mul]
        refine fb_si_cong (fun l hl => ?_)
        have a := h6 (j + 1) (by omega) hj i hi l hl
        have b := Int.mul_ediv_cancel' (Int.dvd_of_emod_eq_zero a.2)
        rw [tZ_2 d be ga (j + 1) i l (by omega)]
        show (ga (j + 2) : Int) * (pZ d be ga (j + 1) i l / (ga (j + 2) : Int) * xZ be ga d r l) = _
        rw [← Int.mul_assoc]
        exact congrArg (· * xZ be ga d r l) b
      have e2 := si_pS (d := d) (be := be) hT.2.2.2.1 (tZ d be ga (j + 1) i) (tZ d be ga j i) (xZ be ga d r) (j + 1)
      have e3 : fb_si (fun l => tZ d be ga (j + 1) i l * eX d be ga (xZ be ga d r) l) (d + 1) = r * fb_si (fun l => tZ d be ga (j + 1) i l * xZ be ga d r l) (d + 1) := by
        rw [← fb_si_mul]
        exact fb_si_cong (fun l hl => by rw [xZ_own hT h0 hl]; grind)
      rw [e3, Nat.add_sub_cancel] at e2
      have e4 : fb_si (fun l => pZ d be ga (j + 1) i l * xZ be ga d r l) (d + 1) = fb_si (fun l => pS d be ga (tZ d be ga (j + 1) i) (tZ d be ga j i) (j + 1) l * xZ be ga d r l) (d + 1) := rfl
      have k1 := k_div h4 (i := j) (by omega)
      have k2 := k_div h4 (i := j + 1) hj
      have k1 : (ga (j + 1) : Int) * kN be ga (j + 1) = kN be ga j * be j := by exact_mod_cast k1
      have k2 : (ga (j + 2) : Int) * kN be ga (j + 2) = kN be ga (j + 1) * be (j + 1) := by exact_mod_cast k2
      have ow := xZ_own hT h0 (l := j + 1) (by omega)
      unfold eX at ow
      rw [if_neg (by omega), if_pos hj, Nat.add_sub_cancel] at ow
      generalize fb_si (fun l => tZ d be ga (j + 1) i l * xZ be ga d r l) (d + 1) = S1 at *
      generalize fb_si (fun l => tZ d be ga j i l * xZ be ga d r l) (d + 1) = S0 at *
      generalize fb_si (fun l => tZ d be ga (j + 2) i l * xZ be ga d r l) (d + 1) = S2 at *
      rw [e4, e2] at e1
      refine Int.eq_of_mul_eq_mul_left (a := (ga (j + 2) : Int)) (by omega) ?_
      have a1 : (ga (j + 2) : Int) * ((wZ be d 0 : Int) * S2) = (r - ia be ga (j + 1)) * ((wZ be d 0 : Int) * S1) - (be j : Int) * ((wZ be d 0 : Int) * S0) := by
        have : (ga (j + 2) : Int) * ((wZ be d 0 : Int) * S2) = (wZ be d 0 : Int) * ((ga (j + 2) : Int) * S2) := by grind
        rw [this, e1]
        grind
      rw [a1, i1, i0]
      have a2 : (ga (j + 2) : Int) * ((kN be ga (j + 2) : Int) * xZ be ga d r (j + 2) * xZ be ga d r i) = (ga (j + 2) : Int) * (kN be ga (j + 2) : Int) * xZ be ga d r (j + 2) * xZ be ga d r i := by grind
      show _ = (ga (j + 2) : Int) * ((kN be ga (j + 2) : Int) * xZ be ga d r (j + 2) * xZ be ga d r i)
      rw [a2, k2]
      have ow : (ga (j + 1) : Int) * xZ be ga d r j + ia be ga (j + 1) * xZ be ga d r (j + 1) + (be (j + 1) : Int) * xZ be ga d r (j + 2) = r * xZ be ga d r (j + 1) := ow
      generalize xZ be ga d r (j + 2) = X2 at *
      generalize xZ be ga d r (j + 1) = X1 at *
      generalize xZ be ga d r j = X0 at *
      generalize xZ be ga d r i = Xi at *
      generalize (kN be ga (j + 1) : Int) = K1 at *
      generalize (kN be ga j : Int) = K0 at *
      have b1 : (be j : Int) * (K0 * X0 * Xi) = (ga (j + 1) : Int) * K1 * (X0 * Xi) := by rw [k1]; grind
      have b2 : K1 * (be (j + 1) : Int) * X2 * Xi = K1 * Xi * ((be (j + 1) : Int) * X2) := by grind
      have b3 : (be (j + 1) : Int) * X2 = r * X1 - ia be ga (j + 1) * X1 - (ga (j + 1) : Int) * X0 := by omega
      rw [b1, b2, b3]
      grind
  intro j hj
  by_cases c : j < d
  · exact (key j c).1
  · have := (key (d - 1) (by omega)).2
    rw [show d - 1 + 1 = d by omega] at this
    rw [show j = d by omega]
    exact this
end ROOTZ
