
/-! how often a root comes -/
theorem si_mono {f g : Nat → Int} : ∀ {n : Nat}, (∀ k, k < n → f k ≤ g k) → fb_si f n ≤ fb_si g n := by
  intro n
  induction n with
  | zero => intro _; exact Int.le_refl 0
  | succ n ih =>
    intro h
    rw [fb_si_succ, fb_si_succ]
    have a := ih (fun k hk => h k (by omega))
    have b := h n (by omega)
    omega
theorem max_at (X : Nat → Int) : ∀ m : Nat, ∃ i, i < m + 1 ∧ ∀ l, l < m + 1 → (X l).natAbs ≤ (X i).natAbs := by
  intro m
  induction m with
  | zero => exact ⟨0, by omega, fun l hl => by rw [show l = 0 by omega]; exact Nat.le_refl _⟩
  | succ m ih =>
    obtain ⟨i, hi, h⟩ := ih
    by_cases c : (X (m + 1)).natAbs ≤ (X i).natAbs
    · refine ⟨i, by omega, fun l hl => ?_⟩
      by_cases e : l = m + 1
      · rw [e]; exact c
      · exact h l (by omega)
    · refine ⟨m + 1, by omega, fun l hl => ?_⟩
      by_cases e : l = m + 1
      · rw [e]; exact Nat.le_refl _
      · have := h l (by omega)
        omega
theorem sq_le {x w : Int} (h1 : -w ≤ x) (h2 : x ≤ w) : x * x ≤ w * w := by
  rcases Int.le_total 0 x with h | h
  · exact Int.mul_le_mul h2 h2 h (by omega)
  · have a := Int.mul_le_mul (a := -x) (b := -x) (c := w) (d := w) (by omega) (by omega) (by omega) (by omega)
    have b : -x * -x = x * x := by grind
    omega
theorem sq_0 (x : Int) : 0 ≤ x * x := by
  rcases Int.le_total 0 x with h | h
  · exact Int.mul_nonneg h h
  · have a := Int.mul_nonneg (a := -x) (b := -x) (by omega) (by omega)
    have b : -x * -x = x * x := by grind
    omega
section TIMES
variable {d : Nat} {be ga : Nat → Nat} {r : Int} {b c : Nat → Int32}
theorem kN_pos (h1 : L1 d be ga) (h4 : L4 d be ga) : ∀ {j : Nat}, j < d + 1 → 1 ≤ kN be ga j := by
  intro j
  induction j with
  | zero => intro _; exact Nat.le_refl 1
  | succ j ih =>
    intro hj
    have a := k_div h4 (i := j) (by omega)
    have b := Nat.mul_pos (ih (by omega)) (h1.2 j (by omega)).1
    rw [← a] at b
    exact Nat.pos_of_mul_pos_left b
theorem x_le (hT : TT d be ga) (h1 : L1 d be ga) (h4 : L4 d be ga) (h6 : L6 d be ga) (hr : ∀ j, j < d + 1 → RO d be ga j) (h0 : uZ be ga r (d + 1) = 0) {j : Nat} (hj : j < d + 1) : -(wZ be d 0 : Int) ≤ xZ be ga d r j ∧ xZ be ga d r j ≤ wZ be d 0 := by
  obtain ⟨i, hi, hm⟩ := max_at (xZ be ga d r) d
  have hw := wZ_pos h1 0
  have m0 := hm 0 (by omega)
  rw [xZ_0] at m0
  have hk := kN_pos h1 h4 hj
  have eq := x_third hT h1 h4 h6 h0 hi j hj
  obtain ⟨t0, ts⟩ := hr j hj i hi
  obtain ⟨B, hB⟩ : ∃ B : Nat, B = (xZ be ga d r i).natAbs := ⟨_, rfl⟩
  have hB1 : 1 ≤ B := by omega
  have up : fb_si (fun l => tZ d be ga j i l * xZ be ga d r l) (d + 1) ≤ (B : Int) * kN be ga j := by
    rw [← ts, ← fb_si_mul]
    refine si_mono (fun l hl => ?_)
    rw [Int.mul_comm (B : Int)]
    exact Int.mul_le_mul_of_nonneg_left (by have := hm l hl; omega) (t0 l hl)
  have dn : -(B : Int) * kN be ga j ≤ fb_si (fun l => tZ d be ga j i l * xZ be ga d r l) (d + 1) := by
    rw [← ts, ← fb_si_mul]
    refine si_mono (fun l hl => ?_)
    rw [Int.mul_comm (-(B : Int))]
    exact Int.mul_le_mul_of_nonneg_left (by have := hm l hl; omega) (t0 l hl)
  generalize fb_si (fun l => tZ d be ga j i l * xZ be ga d r l) (d + 1) = S at *
  have hw2 : (0 : Int) ≤ (wZ be d 0 : Int) := by omega
  have u2 := Int.mul_le_mul_of_nonneg_left up hw2
  have d2 := Int.mul_le_mul_of_nonneg_left dn hw2
  rw [eq] at u2 d2
  have pos : (0 : Int) < (kN be ga j : Int) * B := Int.mul_pos (by omega) (by omega)
  rcases Int.le_total 0 (xZ be ga d r i) with h | h
  · have e : xZ be ga d r i = B := by omega
    rw [e] at u2 d2
    refine ⟨Int.le_of_mul_le_mul_left (a := (kN be ga j : Int) * B) ?_ pos, Int.le_of_mul_le_mul_left (a := (kN be ga j : Int) * B) ?_ pos⟩
    · have e1 : (kN be ga j : Int) * B * -(wZ be d 0 : Int) = (wZ be d 0 : Int) * (-(B : Int) * kN be ga j) := by grind
      have e2 : (kN be ga j : Int) * B * xZ be ga d r j = (kN be ga j : Int) * xZ be ga d r j * B := by grind
      rw [e1, e2]; exact d2
    · have e1 : (kN be ga j : Int) * B * (wZ be d 0 : Int) = (wZ be d 0 : Int) * ((B : Int) * kN be ga j) := by grind
      have e2 : (kN be ga j : Int) * B * xZ be ga d r j = (kN be ga j : Int) * xZ be ga d r j * B := by grind
      rw [e1, e2]; exact u2
  · have e : xZ be ga d r i = -(B : Int) := by omega
    rw [e] at u2 d2
    refine ⟨Int.le_of_mul_le_mul_left (a := (kN be ga j : Int) * B) ?_ pos, Int.le_of_mul_le_mul_left (a := (kN be ga j : Int) * B) ?_ pos⟩
    · have e1 : (kN be ga j : Int) * B * -(wZ be d 0 : Int) = -((wZ be d 0 : Int) * ((B : Int) * kN be ga j)) := by grind
      have e2 : (kN be ga j : Int) * B * xZ be ga d r j = -((kN be ga j : Int) * xZ be ga d r j * -(B : Int)) := by grind
      rw [e1, e2]; omega
    · have e1 : (kN be ga j : Int) * B * (wZ be d 0 : Int) = -((wZ be d 0 : Int) * (-(B : Int) * kN be ga j)) := by grind
      have e2 : (kN be ga j : Int) * B * xZ be ga d r j = -((kN be ga j : Int) * xZ be ga d r j * -(B : Int)) := by grind
      rw [e1, e2]; omega
def bwF (be ga : Nat → Nat) (d : Nat) (r : Int) (l : Nat) : Int := (kN be ga l : Int) * xZ be ga d r l * xZ be ga d r l
def bw (be ga : Nat → Nat) (d : Nat) (r : Int) : Int := fb_si (bwF be ga d r) (d + 1)
def smF (be ga : Nat → Nat) (d : Nat) (r : Int) (l : Nat) : Int := uZ be ga r l * uZ be ga r l * ((wZ be d l : Int) * gZ ga d l)
def smZ (be ga : Nat → Nat) (d : Nat) (r : Int) : Int := fb_si (smF be ga d r) (d + 1)
def abN (be ga : Nat → Nat) (d : Nat) : Int := (tN be ga d : Int) * wZ be d 0 * wZ be d 0
theorem k_w_g (h1 : L1 d be ga) (h4 : L4 d be ga) : ∀ {j : Nat}, j < d + 1 → kN be ga j * wZ be d j * gZ ga d 0 = gZ ga d j * wZ be d 0 := by
  intro j
  induction j with
  | zero => intro _; show 1 * _ * _ = _; grind
  | succ j ih =>
    intro hj
    have a := ih (by omega)
    have k := k_div h4 (i := j) (by omega)
    rw [wZ_s be (show j < d by omega), gZ_s ga (show j < d by omega)] at a
    have hg := (h1.2 j (by omega)).2
    refine Nat.eq_of_mul_eq_mul_left (show 0 < ga (j + 1) by omega) ?_
    have e1 : ga (j + 1) * (kN be ga (j + 1) * wZ be d (j + 1) * gZ ga d 0) = (ga (j + 1) * kN be ga (j + 1)) * wZ be d (j + 1) * gZ ga d 0 := by grind
    have e2 : kN be ga j * be j * wZ be d (j + 1) * gZ ga d 0 = kN be ga j * (be j * wZ be d (j + 1)) * gZ ga d 0 := by grind
    rw [e1, k, e2, a]
    grind
theorem sm_bw (h1 : L1 d be ga) (h4 : L4 d be ga) : smZ be ga d r * wZ be d 0 = bw be ga d r * gZ ga d 0 := by
  unfold smZ bw
  rw [Int.mul_comm, Int.mul_comm (fb_si _ _), ← fb_si_mul, ← fb_si_mul]
  refine fb_si_cong (fun l hl => ?_)
  have e := k_w_g h1 h4 hl
  have e : (kN be ga l : Int) * wZ be d l * gZ ga d 0 = gZ ga d l * wZ be d 0 := by exact_mod_cast e
  unfold smF bwF xZ
  have e1 : (wZ be d 0 : Int) * (uZ be ga r l * uZ be ga r l * ((wZ be d l : Int) * gZ ga d l)) = uZ be ga r l * uZ be ga r l * wZ be d l * (gZ ga d l * wZ be d 0) := by grind
  rw [e1, ← e]
  grind
theorem bw_range (hT : TT d be ga) (h1 : L1 d be ga) (h4 : L4 d be ga) (h6 : L6 d be ga) (hr : ∀ j, j < d + 1 → RO d be ga j) (h0 : uZ be ga r (d + 1) = 0) : 1 ≤ bw be ga d r ∧ bw be ga d r ≤ abN be ga d := by
  have hw := wZ_pos h1 0
  constructor
  · unfold bw
    have : ∀ m, 1 ≤ fb_si (bwF be ga d r) (m + 1) := by
      intro m
      induction m with
      | zero =>
        show (1 : Int) ≤ 0 + ((1 : Nat) : Int) * xZ be ga d r 0 * xZ be ga d r 0
        rw [xZ_0]
        have : (1 : Int) * 1 ≤ (wZ be d 0 : Int) * wZ be d 0 := Int.mul_le_mul (by omega) (by omega) (by omega) (by omega)
        have e : (0 : Int) + ((1 : Nat) : Int) * (wZ be d 0 : Int) * wZ be d 0 = (wZ be d 0 : Int) * wZ be d 0 := by grind
        omega
      | succ m ih =>
        rw [fb_si_succ]
        have : 0 ≤ bwF be ga d r (m + 1) := by
          unfold bwF
          rw [Int.mul_assoc]
          exact Int.mul_nonneg (by omega) (sq_0 _)
        omega
    exact this d
  · have e : abN be ga d = fb_si (fun l => (wZ be d 0 : Int) * wZ be d 0 * (kN be ga l : Int)) (d + 1) := by
      rw [fb_si_mul, fb_si_nat]
      unfold abN tN
      grind
    rw [e]
    refine si_mono (fun l hl => ?_)
    have a := x_le hT h1 h4 h6 hr h0 hl
    unfold bwF
    rw [Int.mul_assoc, Int.mul_comm ((wZ be d 0 : Int) * wZ be d 0)]
    exact Int.mul_le_mul_of_nonneg_left (sq_le a.1 a.2) (by omega)
theorem ab_range (hT : TT d be ga) (h4 : L4 d be ga) : 0 ≤ abN be ga d ∧ abN be ga d ≤ 1024000000000000000 := by
  have a := h4.2
  have b := wZ_le hT 0
  have c : tN be ga d * wZ be d 0 * wZ be d 0 ≤ 100000 * 3200000 * 3200000 := Nat.mul_le_mul (Nat.mul_le_mul a b) b
  unfold abN
  have e : (tN be ga d : Int) * wZ be d 0 * wZ be d 0 = ((tN be ga d * wZ be d 0 * wZ be d 0 : Nat) : Int) := by grind
  rw [e]
  omega
def tmI (be ga : Nat → Nat) (d : Nat) (r : Int) : Int32 := if abN be ga d % bw be ga d r = 0 then (lZ (abN be ga d / bw be ga d r)).toInt32 else -1
theorem lZ_remZ {z g : Int} (h1 : 0 ≤ z) (h2 : z < 9223372036854775808) (hg : 0 < g) (hg2 : g < 9223372036854775808) : lg_cmp (lZ z - lZ z / lZ g * lZ g) 0 = 0 ↔ z % g = 0 := by
  obtain ⟨n, rfl⟩ : ∃ n : Nat, g = n := ⟨g.toNat, by omega⟩
  exact lZ_rem h1 h2 (by omega) (by omega)
theorem lZ_divZ {z g : Int} (h1 : 0 ≤ z) (h2 : z < 9223372036854775808) (hg : 0 < g) (hg2 : g < 9223372036854775808) : lZ z / lZ g = lZ (z / g) := by
  obtain ⟨n, rfl⟩ : ∃ n : Nat, g = n := ⟨g.toNat, by omega⟩
  exact lZ_div h1 h2 (by omega) (by omega)
theorem lZ_ne {g : Int} (hg : 0 < g) (hg2 : g < 9223372036854775808) : ¬ lZ g = 0 := by
  obtain ⟨n, rfl⟩ : ∃ n : Nat, g = n := ⟨g.toNat, by omega⟩
  rw [← lN_lZ, lN0 (by omega)]
  omega
theorem M_times_s {k u : Nat → Int64} (hT : TT d be ga) (hb : TB b be) (h1 : L1 d be ga) (h4 : L4 d be ga) (h6 : L6 d be ga) (hr : ∀ j, j < d + 1 → RO d be ga j) (h0 : uZ be ga r (d + 1) = 0) (hk : ∀ j, j < d + 1 → k j = lN (kN be ga j)) (hu : ∀ j, j < d + 1 → u j = lZ (uZ be ga r j)) : M_times (nI d) (lN (tN be ga d)) b k u = some (tmI be ga d r) := by
  have hd := hT.1
  refine ok_eq ?_
  unfold M_times
  refine fr3 (fun F x1 x3 x5 => M_times_l10 (lN (tN be ga d)) b k u F x1 x3 x5) (fun s x1 x3 x5 => x5 = nI (d + 1 - s) - 1 ∧ x3 = lZ (wZ be d (d - s)) ∧ ∃ S : Int, x1 = lZ S ∧ S + fb_si (bwF be ga d r) (d + 1 - s) = bw be ga d r) (d + 1) (fuel_big (by omega)) ?_ ?_ 0 (Nat.zero_le _) 0 1 (nI d) ⟨?_, ?_, 0, rfl, ?_⟩
  · rintro s hs x1 x3 x5 ⟨rfl, rfl, S, rfl, hS⟩ F ih
    obtain ⟨m, hm⟩ : ∃ m, d + 1 - s = m + 1 := ⟨d - s, by omega⟩
    have hm2 : d - s = m := by omega
    rw [hm] at hS
    rw [hm, hm2, nI_pred, M_times_l10_s]
    unfold M_times_n10 M_times_n63
    rw [cl_nI (by omega), hk m (by omega), hu m (by omega), lN_lZ (kN be ga m), lZ_mul, lZ_mul, lZ_mul, lZ_add]
    have hS2 : S + (kN be ga m : Int) * (uZ be ga r m * wZ be d m) * (uZ be ga r m * wZ be d m) + fb_si (bwF be ga d r) m = bw be ga d r := by
      rw [fb_si_succ] at hS
      unfold bwF xZ at hS
      unfold bwF xZ
      omega
    have e5 : nI m + -1 = nI (d + 1 - (s + 1)) - 1 := by
      rw [show d + 1 - (s + 1) = m by omega, Int32.sub_eq_add_neg]
    refine ok_f (nI_nlt (a := m) (b := 0) (by omega) (by omega)) (ok_g (inb_nI (by omega) (by omega)) (ok_l (ok_i (fun q => ih _ _ _ ⟨e5, ?_, _, rfl, ?_⟩) (fun q => ?_))))
    · have q := (nI_leI (b := 0) (by omega) (by decide)).mp q
      rw [show d - (s + 1) = m by omega]
    · rw [show d + 1 - (s + 1) = m by omega]; exact hS2
    · have q : ¬ m = 0 := fun h => q (by rw [h]; decide)
      obtain ⟨m', rfl⟩ : ∃ m', m = m' + 1 := ⟨m - 1, by omega⟩
      have pl := hT.2.1 m' (by omega)
      rw [nI_pred, cl_nI (by omega), hb m' (by omega), n_lZ (by omega), lZ_mul]
      refine ok_g (inb_nI (by omega) (by omega)) (ih _ _ _ ⟨e5, ?_, _, rfl, ?_⟩)
      · rw [show d - (s + 1) = m' by omega, wZ_s be (show m' < d by omega), Int.natCast_mul, Int.mul_comm]
      · rw [show d + 1 - (s + 1) = m' + 1 by omega]; exact hS2
  · rintro x1 x3 x5 ⟨rfl, rfl, S, rfl, hS⟩ F
    have rb := bw_range hT h1 h4 h6 hr h0
    have ra := ab_range hT h4
    rw [Nat.sub_self] at hS ⊢
    have hS : S = bw be ga d r := by
      have : fb_si (bwF be ga d r) 0 = 0 := rfl
      omega
    rw [hS, show d - (d + 1) = 0 by omega, M_times_l10_s]
    unfold M_times_n10 M_times_n70 M_times_n98
    rw [lN_lZ, lZ_mul, lZ_mul]
    show Ok (if nI 0 - 1 < 0 then gd (nzL (lZ (bw be ga d r))) (if lg_cmp (lZ (abN be ga d) - lZ (abN be ga d) / lZ (bw be ga d r) * lZ (bw be ga d r)) 0 = 0 then some ((lZ (abN be ga d) / lZ (bw be ga d r)).toInt32) else some (-1)) else _) _
    unfold tmI
    refine ok_t (by decide) (ok_g (decide_eq_true (lZ_ne (by omega) (by omega))) (ok_i (fun q => ok_s ?_) (fun q => ok_s ?_)))
    · rw [if_pos ((lZ_remZ (by omega) (by omega) (by omega) (by omega)).mp q), lZ_divZ (by omega) (by omega) (by omega) (by omega)]
    · rw [if_neg (fun h => q ((lZ_remZ (by omega) (by omega) (by omega) (by omega)).mpr h))]
  · rw [Nat.sub_zero, nI_pred]
  · rw [Nat.sub_zero, wZ_d]; rfl
  · rw [Nat.sub_zero, Int.zero_add]; rfl
end TIMES
