/-! thirds as whole numbers -/
def ia (be ga : Nat → Nat) (i : Nat) : Int := (be 0 : Int) - be i - ga i
def pS (d : Nat) (be ga : Nat → Nat) (t1 t0 : Nat → Int) (j l : Nat) : Int := (if l = 0 then 0 else (be (l - 1) : Int) * t1 (l - 1)) + (ia be ga l - ia be ga j) * t1 l + (if l < d then (ga (l + 1) : Int) * t1 (l + 1) else 0) - (be (j - 1) : Int) * t0 l
def tZ (d : Nat) (be ga : Nat → Nat) : Nat → Nat → Nat → Int
  | 0, i, l => if l = i then 1 else 0
  | 1, i, l => if l + 1 = i then ga i else if l = i then ia be ga i else if l = i + 1 then be i else 0
  | j + 2, i, l => pS d be ga (tZ d be ga (j + 1) i) (tZ d be ga j i) (j + 1) l / (ga (j + 2) : Int)
def pZ (d : Nat) (be ga : Nat → Nat) (j i l : Nat) : Int := pS d be ga (tZ d be ga j i) (tZ d be ga (j - 1) i) j l
theorem tZ_2 (d : Nat) (be ga : Nat → Nat) (j i l : Nat) (h : 1 ≤ j) : tZ d be ga (j + 1) i l = pZ d be ga j i l / (ga (j + 1) : Int) := by
  obtain ⟨k, rfl⟩ : ∃ k, j = k + 1 := ⟨j - 1, by omega⟩
  rfl
def L6 (d : Nat) (be ga : Nat → Nat) : Prop := ∀ j, 1 ≤ j → j < d → ∀ i, i < d + 1 → ∀ l, l < d + 1 → 0 ≤ pZ d be ga j i l ∧ pZ d be ga j i l % (ga (j + 1) : Int) = 0
theorem si_up (g : Nat → Int) : ∀ m, fb_si (fun l => if l = 0 then 0 else g (l - 1)) (m + 1) = fb_si g m := by
  intro m
  induction m with
  | zero => rfl
  | succ m ih =>
    rw [fb_si_succ, ih, fb_si_succ, if_neg (by omega), Nat.add_sub_cancel]
theorem si_dn (g : Nat → Int) : ∀ m, fb_si (fun l => g (l + 1)) m = fb_si g (m + 1) - g 0 := by
  intro m
  induction m with
  | zero => show (0 : Int) = 0 + g 0 - g 0; omega
  | succ m ih => rw [fb_si_succ, ih, fb_si_succ g (m + 1)]; omega
theorem si_zero {f : Nat → Int} {m : Nat} (h : ∀ l, l < m → f l = 0) : fb_si f m = 0 := by
  rw [fb_si_cong (g := fun l => 0 * f l) (fun l hl => by rw [h l hl]; rfl), fb_si_mul, Int.zero_mul]
theorem si_one (X : Nat → Int) {i : Nat} : ∀ {m : Nat}, i < m → fb_si (fun l => (if l = i then 1 else 0) * X l) m = X i := by
  intro m
  induction m with
  | zero => intro h; omega
  | succ m ih =>
    intro h
    rw [fb_si_succ]
    by_cases c : i = m
    · rw [si_zero (fun l hl => by rw [if_neg (by omega), Int.zero_mul]), if_pos c.symm, Int.one_mul, c]; omega
    · rw [ih (by omega), if_neg (fun h => c h.symm), Int.zero_mul]; omega
/-- what row i of the first thirds does to X -/
def eX (d : Nat) (be ga : Nat → Nat) (X : Nat → Int) (l : Nat) : Int := (if l = 0 then 0 else (ga l : Int) * X (l - 1)) + ia be ga l * X l + (if l < d then (be l : Int) * X (l + 1) else 0)
theorem si_pS {d : Nat} {be ga : Nat → Nat} (hga : ga 0 = 0) (t1 t0 X : Nat → Int) (j : Nat) : fb_si (fun l => pS d be ga t1 t0 j l * X l) (d + 1) = fb_si (fun l => t1 l * eX d be ga X l) (d + 1) - ia be ga j * fb_si (fun l => t1 l * X l) (d + 1) - (be (j - 1) : Int) * fb_si (fun l => t0 l * X l) (d + 1) := by
  have e1 : fb_si (fun l => (if l = 0 then 0 else (be (l - 1) : Int) * t1 (l - 1)) * X l) (d + 1) = fb_si (fun l => if l < d then t1 l * ((be l : Int) * X (l + 1)) else 0) (d + 1) := by
    obtain ⟨g, hg⟩ : ∃ g : Nat → Int, ∀ k, g k = t1 k * ((be k : Int) * X (k + 1)) := ⟨_, fun _ => rfl⟩
    rw [fb_si_cong (g := fun l => if l = 0 then 0 else g (l - 1)) (fun l hl => by
      by_cases c : l = 0
      · rw [if_pos c, if_pos c, Int.zero_mul]
      · rw [if_neg c, if_neg c, hg, show l - 1 + 1 = l by omega]
        grind), si_up, fb_si_succ, if_neg (by omega), Int.add_zero]
    exact fb_si_cong (fun l hl => by rw [if_pos hl, hg])
  have e2 : fb_si (fun l => (if l < d then (ga (l + 1) : Int) * t1 (l + 1) else 0) * X l) (d + 1) = fb_si (fun l => if l = 0 then 0 else t1 l * ((ga l : Int) * X (l - 1))) (d + 1) := by
    rw [fb_si_succ, if_neg (Nat.lt_irrefl d), Int.zero_mul, Int.add_zero]
    obtain ⟨g, hg⟩ : ∃ g : Nat → Int, ∀ k, g k = if k = 0 then 0 else t1 k * ((ga k : Int) * X (k - 1)) := ⟨_, fun _ => rfl⟩
    rw [fb_si_cong (g := fun l => g (l + 1)) (fun l hl => by
      rw [if_pos hl, hg, if_neg (by omega), Nat.add_sub_cancel]
      grind), si_dn, hg 0, if_pos rfl, Int.sub_zero]
    exact fb_si_cong (fun l _ => hg l)
  have e3 : fb_si (fun l => pS d be ga t1 t0 j l * X l) (d + 1) = fb_si (fun l => (if l = 0 then 0 else (be (l - 1) : Int) * t1 (l - 1)) * X l) (d + 1) + (fb_si (fun l => t1 l * (ia be ga l * X l)) (d + 1) - ia be ga j * fb_si (fun l => t1 l * X l) (d + 1)) + fb_si (fun l => (if l < d then (ga (l + 1) : Int) * t1 (l + 1) else 0) * X l) (d + 1) - (be (j - 1) : Int) * fb_si (fun l => t0 l * X l) (d + 1) := by
    rw [← fb_si_mul, ← fb_si_mul, ← fb_si_sub, ← fb_si_add, ← fb_si_add, ← fb_si_sub]
    refine fb_si_cong (fun l _ => ?_)
    unfold pS
    grind
  have e4 : fb_si (fun l => t1 l * eX d be ga X l) (d + 1) = fb_si (fun l => if l = 0 then 0 else t1 l * ((ga l : Int) * X (l - 1))) (d + 1) + fb_si (fun l => t1 l * (ia be ga l * X l)) (d + 1) + fb_si (fun l => if l < d then t1 l * ((be l : Int) * X (l + 1)) else 0) (d + 1) := by
    rw [← fb_si_add, ← fb_si_add]
    refine fb_si_cong (fun l _ => ?_)
    unfold eX
    by_cases c : l = 0
    · rw [if_pos c, if_pos c]
      by_cases c2 : l < d
      · rw [if_pos c2, if_pos c2]; grind
      · rw [if_neg c2, if_neg c2]; grind
    · rw [if_neg c, if_neg c]
      by_cases c2 : l < d
      · rw [if_pos c2, if_pos c2]; grind
      · rw [if_neg c2, if_neg c2]; grind
  rw [e3, e1, e2, e4]
  omega
theorem si_t1 {d : Nat} {be ga : Nat → Nat} (hbe : be d = 0) (X : Nat → Int) {i : Nat} (hi : i < d + 1) : fb_si (fun l => tZ d be ga 1 i l * X l) (d + 1) = eX d be ga X i := by
  have e : fb_si (fun l => tZ d be ga 1 i l * X l) (d + 1) = fb_si (fun l => (if l = i - 1 then 1 else 0) * ((if i = 0 then 0 else (ga i : Int)) * X l)) (d + 1) + fb_si (fun l => (if l = i then 1 else 0) * (ia be ga i * X l)) (d + 1) + (if i < d then fb_si (fun l => (if l = i + 1 then 1 else 0) * ((be i : Int) * X l)) (d + 1) else 0) := by
    by_cases c : i < d
    · rw [if_pos c, ← fb_si_add, ← fb_si_add]
      refine fb_si_cong (fun l _ => ?_)
      show (if l + 1 = i then (ga i : Int) else if l = i then ia be ga i else if l = i + 1 then (be i : Int) else 0) * X l = _
      by_cases c1 : l + 1 = i
      · rw [if_pos c1, if_pos (show l = i - 1 by omega), if_neg (show ¬ i = 0 by omega), if_neg (show ¬ l = i by omega), if_neg (show ¬ l = i + 1 by omega)]; grind
      · rw [if_neg c1]
        by_cases c2 : l = i
        · rw [if_pos c2, if_pos c2, if_neg (show ¬ l = i + 1 by omega)]
          by_cases c3 : i = 0
          · rw [if_pos c3]; grind
          · rw [if_neg (show ¬ l = i - 1 by omega)]; grind
        · rw [if_neg c2, if_neg c2]
          by_cases c4 : l = i - 1
          · have c5 : i = 0 := by omega
            omega
          · rw [if_neg c4]
            by_cases c6 : l = i + 1
            · rw [if_pos c6, if_pos c6]; grind
            · rw [if_neg c6, if_neg c6]; grind
    · rw [if_neg c, Int.add_zero, ← fb_si_add]
      refine fb_si_cong (fun l hl => ?_)
      show (if l + 1 = i then (ga i : Int) else if l = i then ia be ga i else if l = i + 1 then (be i : Int) else 0) * X l = _
      by_cases c1 : l + 1 = i
      · rw [if_pos c1, if_pos (show l = i - 1 by omega), if_neg (show ¬ i = 0 by omega), if_neg (show ¬ l = i by omega)]; grind
      · rw [if_neg c1]
        by_cases c2 : l = i
        · rw [if_pos c2, if_pos c2]
          by_cases c3 : i = 0
          · rw [if_pos c3]; grind
          · rw [if_neg (show ¬ l = i - 1 by omega)]; grind
        · rw [if_neg c2, if_neg c2, if_neg (show ¬ l = i + 1 by omega), if_neg (show ¬ l = i - 1 by omega)]; grind
  rw [e, si_one _ (show i - 1 < d + 1 by omega), si_one _ hi]
  unfold eX
  by_cases c : i < d
  · rw [if_pos c, if_pos c, si_one _ (show i + 1 < d + 1 by omega)]
    by_cases c3 : i = 0
    · rw [if_pos c3, if_pos c3, Int.zero_mul]
    · rw [if_neg c3, if_neg c3]
  · rw [if_neg c, if_neg c]
    by_cases c3 : i = 0
    · rw [if_pos c3, if_pos c3, Int.zero_mul]
    · rw [if_neg c3, if_neg c3]
theorem si_t0 {d : Nat} {be ga : Nat → Nat} (X : Nat → Int) {i : Nat} (hi : i < d + 1) : fb_si (fun l => tZ d be ga 0 i l * X l) (d + 1) = X i := si_one X hi
theorem eX_1 {d : Nat} {be ga : Nat → Nat} (hga : ga 0 = 0) (hbe : be d = 0) {l : Nat} (hl : l < d + 1) : eX d be ga (fun _ => 1) l = be 0 := by
  unfold eX ia
  simp only [Int.mul_one]
  by_cases c : l = 0
  · rw [if_pos c]
    by_cases c2 : l < d
    · rw [if_pos c2, c, hga]; omega
    · have hd0 : d = 0 := by omega
      rw [hd0] at hbe
      rw [if_neg c2, c, hga, hbe]; omega
  · rw [if_neg c]
    by_cases c2 : l < d
    · rw [if_pos c2]; omega
    · have : l = d := by omega
      rw [if_neg c2, this, hbe]; omega
/-- a row of thirds that is right: none below 0, together k(j) -/
def RO (d : Nat) (be ga : Nat → Nat) (j : Nat) : Prop := ∀ i, i < d + 1 → (∀ l, l < d + 1 → 0 ≤ tZ d be ga j i l) ∧ fb_si (tZ d be ga j i) (d + 1) = kN be ga j
theorem si_1 (f : Nat → Int) (m : Nat) : fb_si (fun l => f l * (fun _ => (1 : Int)) l) m = fb_si f m := fb_si_cong (fun l _ => Int.mul_one _)
theorem k_div {d : Nat} {be ga : Nat → Nat} (h4 : L4 d be ga) {i : Nat} (hi : i < d) : ga (i + 1) * kN be ga (i + 1) = kN be ga i * be i := by
  rw [kN_s]
  exact Nat.mul_div_cancel' (Nat.dvd_of_mod_eq_zero (h4.1 i hi))
theorem RO_0 {d : Nat} {be ga : Nat → Nat} : RO d be ga 0 := by
  intro i hi
  refine ⟨fun l _ => ?_, ?_⟩
  · show (0 : Int) ≤ if l = i then 1 else 0
    by_cases c : l = i
    · rw [if_pos c]; omega
    · rw [if_neg c]; omega
  · rw [← si_1, si_t0 (fun _ => 1) hi]; rfl
theorem RO_1 {d : Nat} {be ga : Nat → Nat} (hT : TT d be ga) (h1 : L1 d be ga) (h2 : L2 d be ga) : RO d be ga 1 := by
  have hd := hT.1
  intro i hi
  refine ⟨fun l _ => ?_, ?_⟩
  · show (0 : Int) ≤ if l + 1 = i then (ga i : Int) else if l = i then ia be ga i else if l = i + 1 then (be i : Int) else 0
    have := h2 i hi
    by_cases c1 : l + 1 = i
    · rw [if_pos c1]; omega
    · rw [if_neg c1]
      by_cases c2 : l = i
      · rw [if_pos c2]; unfold ia; omega
      · rw [if_neg c2]
        by_cases c3 : l = i + 1
        · rw [if_pos c3]; omega
        · rw [if_neg c3]; omega
  · rw [← si_1, si_t1 (hT.2.2.1 d (Nat.le_refl d) (by omega)) (fun _ => 1) hi, eX_1 hT.2.2.2.1 (hT.2.2.1 d (Nat.le_refl d) (by omega)) hi]
    rw [kN_s, h1.1, Nat.div_one]
    show (be 0 : Int) = ((1 * be 0 : Nat) : Int)
    omega
theorem RO_next {d : Nat} {be ga : Nat → Nat} (hT : TT d be ga) (h1 : L1 d be ga) (h4 : L4 d be ga) {j : Nat} (hj1 : 1 ≤ j) (hj : j < d) (r1 : RO d be ga j) (r0 : RO d be ga (j - 1)) (hp : ∀ i, i < d + 1 → ∀ l, l < d + 1 → 0 ≤ pZ d be ga j i l ∧ pZ d be ga j i l % (ga (j + 1) : Int) = 0) : RO d be ga (j + 1) := by
  have hd := hT.1
  have hg : 1 ≤ ga (j + 1) := (h1.2 j hj).2
  intro i hi
  refine ⟨fun l hl => ?_, ?_⟩
  · rw [tZ_2 d be ga j i l hj1]
    exact Int.ediv_nonneg (hp i hi l hl).1 (by omega)
  · have e1 : (ga (j + 1) : Int) * fb_si (tZ d be ga (j + 1) i) (d + 1) = fb_si (pZ d be ga j i) (d + 1) := by
      rw [← fb_si_mul]
      refine fb_si_cong (fun l hl => ?_)
      rw [tZ_2 d be ga j i l hj1]
      exact Int.mul_ediv_cancel' (Int.dvd_of_emod_eq_zero (hp i hi l hl).2)
    have e2 := si_pS (d := d) (be := be) hT.2.2.2.1 (tZ d be ga j i) (tZ d be ga (j - 1) i) (fun _ => 1) j
    rw [si_1, si_1, si_1, (r1 i hi).2, (r0 i hi).2] at e2
    rw [fb_si_cong (f := fun l => tZ d be ga j i l * eX d be ga (fun _ => 1) l) (g := fun l => (be 0 : Int) * tZ d be ga j i l) (fun l hl => by
      rw [eX_1 hT.2.2.2.1 (hT.2.2.1 d (Nat.le_refl d) (by omega)) hl, Int.mul_comm]), fb_si_mul, (r1 i hi).2] at e2
    have e3 : fb_si (pZ d be ga j i) (d + 1) = (be 0 : Int) * kN be ga j - ia be ga j * kN be ga j - (be (j - 1) : Int) * kN be ga (j - 1) := e2
    have k1 := k_div h4 (i := j - 1) (by omega)
    rw [show j - 1 + 1 = j by omega] at k1
    have k2 := k_div h4 hj
    have k1 : (ga j : Int) * kN be ga j = kN be ga (j - 1) * be (j - 1) := by exact_mod_cast k1
    have k2 : (ga (j + 1) : Int) * kN be ga (j + 1) = kN be ga j * be j := by exact_mod_cast k2
    have e4 : (ga (j + 1) : Int) * fb_si (tZ d be ga (j + 1) i) (d + 1) = (ga (j + 1) : Int) * kN be ga (j + 1) := by
      rw [e1, e3, k2]
      unfold ia
      grind
    exact Int.eq_of_mul_eq_mul_left (by omega) e4
theorem RO_le {d : Nat} {be ga : Nat → Nat} {j i l : Nat} (h : RO d be ga j) (hi : i < d + 1) (hl : l < d + 1) : tZ d be ga j i l ≤ kN be ga j := by
  obtain ⟨h1, h2⟩ := h i hi
  rw [← h2]
  have key : ∀ m, l < m → m ≤ d + 1 → tZ d be ga j i l ≤ fb_si (tZ d be ga j i) m := by
    intro m
    induction m with
    | zero => intro h; omega
    | succ m ih =>
      intro hm hle
      rw [fb_si_succ]
      have hm0 := h1 m (by omega)
      by_cases c : l = m
      · rw [c]
        have : ∀ k, k ≤ m → 0 ≤ fb_si (tZ d be ga j i) k := by
          intro k
          induction k with
          | zero => intro _; exact Int.le_refl 0
          | succ k ihk =>
            intro hk
            rw [fb_si_succ]
            have := ihk (by omega)
            have := h1 k (by omega)
            omega
        have := this m (Nat.le_refl m)
        omega
      · have := ih (by omega) (by omega)
        omega
  exact key (d + 1) hl (Nat.le_refl _)
