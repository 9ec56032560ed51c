
/-! is it a root; no more roots than six -/
def Mon : Nat → (Int → Int) → Prop
  | 0, f => ∀ x, f x = 1
  | m + 1, f => ∀ r, ∃ g, Mon m g ∧ ∀ x, f x - f r = (x - r) * g x
def Low : Nat → (Int → Int) → Prop
  | 0, f => ∀ x, f x = 0
  | m + 1, f => ∀ r, ∃ g, Low m g ∧ ∀ x, f x - f r = (x - r) * g x
theorem Mon_times : ∀ {m : Nat} {f : Int → Int} (a c : Int), Mon m f → Mon (m + 1) (fun x => (x - a) * f x + c) := by
  intro m
  induction m with
  | zero => intro f a c h r; exact ⟨fun _ => 1, fun _ => rfl, fun x => by show (x - a) * f x + c - ((r - a) * f r + c) = _; rw [h x, h r]; grind⟩
  | succ m ih =>
    intro f a c h r
    obtain ⟨g, hg, e⟩ := h r
    refine ⟨fun x => (x - a) * g x + f r, ih a (f r) hg, fun x => ?_⟩
    have e := e x
    show (x - a) * f x + c - ((r - a) * f r + c) = (x - r) * ((x - a) * g x + f r)
    have e2 : f x = f r + (x - r) * g x := by omega
    rw [e2]
    grind
theorem Mon_low : ∀ {m : Nat} {f : Int → Int} (k : Int), Mon m f → Low (m + 1) (fun x => k * f x) := by
  intro m
  induction m with
  | zero => intro f k h r; exact ⟨fun _ => 0, fun _ => rfl, fun x => by show k * f x - k * f r = (x - r) * 0; rw [h x, h r]; omega⟩
  | succ m ih =>
    intro f k h r
    obtain ⟨g, hg, e⟩ := h r
    refine ⟨fun x => k * g x, ih k hg, fun x => ?_⟩
    have e := e x
    show k * f x - k * f r = (x - r) * (k * g x)
    have e2 : f x = f r + (x - r) * g x := by omega
    rw [e2]
    grind
theorem Low_up : ∀ {m : Nat} {f : Int → Int}, Low m f → Low (m + 1) f := by
  intro m
  induction m with
  | zero => intro f h r; exact ⟨fun _ => 0, fun _ => rfl, fun x => by show f x - f r = (x - r) * 0; rw [h x, h r]; omega⟩
  | succ m ih =>
    intro f h r
    obtain ⟨g, hg, e⟩ := h r
    exact ⟨g, ih hg, e⟩
theorem Mon_sub : ∀ {m : Nat} {f h : Int → Int}, Mon m f → Low m h → Mon m (fun x => f x - h x) := by
  intro m
  induction m with
  | zero => intro f h a b x; show f x - h x = 1; rw [a x, b x]; rfl
  | succ m ih =>
    intro f h a b r
    obtain ⟨g, hg, e⟩ := a r
    obtain ⟨g', hg', e'⟩ := b r
    refine ⟨fun x => g x - g' x, ih hg hg', fun x => ?_⟩
    have e := e x
    have e' := e' x
    show f x - h x - (f r - h r) = (x - r) * (g x - g' x)
    rw [Int.mul_sub, ← e, ← e']
    omega
theorem Mon_count : ∀ {m : Nat} {f : Int → Int}, Mon m f → ∀ (n : Nat) (ρ : Nat → Int), (∀ i, i < n → f (ρ i) = 0) → (∀ i j, i < j → j < n → ρ i ≠ ρ j) → n ≤ m := by
  intro m
  induction m with
  | zero =>
    intro f h n ρ h1 _
    rcases Nat.eq_zero_or_pos n with e | e
    · omega
    · have := h1 0 e
      rw [h] at this
      exact absurd this (by decide)
  | succ m ih =>
    intro f h n ρ h1 h2
    rcases Nat.eq_zero_or_pos n with e | e
    · omega
    · obtain ⟨k, rfl⟩ : ∃ k, n = k + 1 := ⟨n - 1, by omega⟩
      obtain ⟨g, hg, eq⟩ := h (ρ k)
      have := ih hg k ρ (fun i hi => ?_) (fun i j a b => h2 i j a (by omega))
      · omega
      · have e := eq (ρ i)
        rw [h1 i (by omega), h1 k (by omega)] at e
        have ne : ρ i - ρ k ≠ 0 := by
          have := h2 i k hi (by omega)
          omega
        rcases Int.mul_eq_zero.mp e.symm with h | h
        · exact absurd h ne
        · exact h
theorem uZ_Mon (be ga : Nat → Nat) : ∀ i, Mon i (fun r => uZ be ga r i) ∧ Mon (i + 1) (fun r => uZ be ga r (i + 1)) := by
  intro i
  induction i with
  | zero =>
    refine ⟨fun _ => rfl, fun r => ⟨fun _ => 1, fun _ => rfl, fun x => ?_⟩⟩
    show x - r = (x - r) * 1
    omega
  | succ i ih =>
    refine ⟨ih.2, ?_⟩
    have a := Mon_times (ia be ga (i + 1)) 0 ih.2
    have b := Low_up (Mon_low ((ga (i + 1) : Int) * (be i : Int)) ih.1)
    have c := Mon_sub a b
    have e : (fun x => (x - ia be ga (i + 1)) * uZ be ga x (i + 1) + 0 - (ga (i + 1) : Int) * (be i : Int) * uZ be ga x i) = fun r => uZ be ga r (i + 1 + 1) := by
      funext x
      rw [Int.add_zero]
      rfl
    rw [← e]
    exact c
def iZ (z : Int) : Int32 := Int32.ofInt z
theorem iZ_toInt {z : Int} (h1 : -2147483648 ≤ z) (h2 : z < 2147483648) : (iZ z).toInt = z := Int32.toInt_ofInt_of_le (by omega) (by omega)
theorem nI_iZ (n : Nat) : nI n = iZ n := rfl
theorem lZ_0 {z : Int} (h1 : -9223372036854775808 ≤ z) (h2 : z < 9223372036854775808) : lZ z = 0 ↔ z = 0 := by
  constructor
  · intro h
    have := congrArg Int64.toInt h
    rw [lZ_toInt h1 h2] at this
    exact this
  · rintro rfl; rfl
section ISROOT
variable {d : Nat} {be ga : Nat → Nat} {r : Int} {b c : Nat → Int32}
theorem uZ_le (hT : TT d be ga) (h2 : L2 d be ga) (hr1 : -20 ≤ r) (hr2 : r ≤ 20) : ∀ i, i < d + 1 → (uZ be ga r i).natAbs ≤ 60 ^ i ∧ (uZ be ga r (i + 1)).natAbs ≤ 60 ^ (i + 1) := by
  have hd := hT.1
  intro i
  induction i with
  | zero => intro _; exact ⟨Nat.le_refl 1, by show r.natAbs ≤ 60; omega⟩
  | succ i ih =>
    intro hi
    obtain ⟨a, b⟩ := ih (by omega)
    refine ⟨b, ?_⟩
    have p0 := (hT.2.1 0 (by omega)).1
    have p1 := hT.2.1 (i + 1) (by omega)
    have p2 := hT.2.1 i (by omega)
    have p3 := h2 (i + 1) hi
    have m1 : ((r - ia be ga (i + 1)) * uZ be ga r (i + 1)).natAbs ≤ 40 * 60 ^ (i + 1) := by
      rw [Int.natAbs_mul]
      exact Nat.mul_le_mul (by unfold ia; omega) b
    have m2 : ((ga (i + 1) : Int) * (be i : Int) * uZ be ga r i).natAbs ≤ 20 * 20 * 60 ^ i := by
      rw [Int.natAbs_mul, Int.natAbs_mul]
      exact Nat.mul_le_mul (Nat.mul_le_mul (by omega) (by omega)) a
    show ((r - ia be ga (i + 1)) * uZ be ga r (i + 1) - (ga (i + 1) : Int) * (be i : Int) * uZ be ga r i).natAbs ≤ 60 ^ (i + 2)
    rw [show 60 ^ (i + 2) = 60 ^ i * 60 * 60 from rfl]
    rw [show 60 ^ (i + 1) = 60 ^ i * 60 from rfl] at m1
    omega
theorem uZ_rg (hT : TT d be ga) (h2 : L2 d be ga) (hr1 : -20 ≤ r) (hr2 : r ≤ 20) : -9223372036854775808 ≤ uZ be ga r (d + 1) ∧ uZ be ga r (d + 1) < 9223372036854775808 := by
  have hd := hT.1
  have a := (uZ_le hT h2 hr1 hr2 d (by omega)).2
  have b : 60 ^ (d + 1) ≤ 60 ^ 6 := Nat.pow_le_pow_right (by decide) (by omega)
  have c : 60 ^ 6 = 46656000000 := by decide
  omega
theorem ra_lZ (hT : TT d be ga) {i : Nat} (hi : i < 6) (hr1 : -20 ≤ r) (hr2 : r ≤ 20) : (iZ r - lI be ga i).toInt64 = lZ (r - ia be ga i) := by
  have h0 := (hT.2.1 0 (by omega)).1
  have h1 := hT.2.1 i hi
  have e := lI_int hT hi
  have e2 : (iZ r).toInt = r := iZ_toInt (by omega) (by omega)
  refine i_lZ ?_
  rw [fb_subI (by rw [e, e2]; omega) (by rw [e, e2]; omega), e, e2]
  rfl
theorem Td_isRoot_s {u : Nat → Int64} (hT : TT d be ga) (hb : TB b be) (hc : TB c ga) (h2 : L2 d be ga) (hr1 : -20 ≤ r) (hr2 : r ≤ 20) : Ok (Td_isRoot (iZ r) (nI d) b c u) (fun z => z.1 = bI (decide (uZ be ga r (d + 1) = 0)) ∧ ∀ j, j < d + 2 → z.2 j = lZ (uZ be ga r j)) := by
  have hd := hT.1
  unfold Td_isRoot
  refine fr2 (fun F x u => Td_isRoot_l17 (nI d) b c F (iZ r) x u) (fun i x u => x = nI (i + 1) ∧ ∀ j, j < i + 2 → u j = lZ (uZ be ga r j)) d (fuel_big (by omega)) ?_ ?_ 0 (Nat.zero_le _) 1 _ ⟨rfl, fun j hj => ?_⟩
  · rintro i hi x u ⟨rfl, h⟩ F ih
    have p1 := hT.2.1 (i + 1) (by omega)
    have p2 := hT.2.1 i (by omega)
    rw [Td_isRoot_l17_s]
    unfold Td_isRoot_n17
    rw [nI_pred, nI_1, cl_nI (by omega), cl_nI (by omega), cl_nI (by omega), h (i + 1) (by omega), h i (by omega), hc (i + 1) (by omega), hb i (by omega), n_lZ (by omega), n_lZ (by omega)]
    refine ok_f (nI_nlt (a := d) (b := i + 1) (by omega) (by omega)) (ok_e (Td_level_s (by omega) hb hc) (ok_g (inb_nI (by omega) (by omega)) (ok_g (inb_nI (by omega) (by omega)) (ok_g (inb_nI (by omega) (by omega)) (ok_g (inb_nI (by omega) (by omega)) (ok_l (ok_g (inb_nI (by omega) (by omega)) (ih _ _ ⟨rfl, all_next.mpr ⟨fun j hj => by rw [pk_uLn (by omega)]; exact h j hj, ?_⟩⟩))))))))
    rw [pk_uLs, ra_lZ hT (by omega) hr1 hr2, lZ_mul, lZ_mul, lZ_mul, lZ_sub]
    rfl
  · rintro x u ⟨rfl, h⟩ F
    have rg := uZ_rg hT h2 hr1 hr2
    rw [Td_isRoot_l17_s]
    unfold Td_isRoot_n17 Td_isRoot_n81 Td_isRoot_n102
    rw [nI_1, cl_nI (by omega), h (d + 1) (by omega)]
    refine ok_t (nI_lt (by omega) (by omega)) (ok_g (inb_nI (by omega) (by omega)) (ok_i (fun q => ok_g isb_1 (ok_s ⟨?_, h⟩)) (fun q => ok_g isb_0 (ok_s ⟨?_, h⟩))))
    · rw [decide_eq_true ((lZ_0 rg.1 rg.2).mp ((lg0 _).mp q))]; rfl
    · rw [decide_eq_false (fun h => q ((lg0 _).mpr ((lZ_0 rg.1 rg.2).mpr h)))]; rfl
  · show vp_updL (vp_updL u 0 1) 1 ((iZ r).toInt64) j = _
    by_cases e : j = 1
    · rw [e, pk_uLs]
      exact i_lZ (iZ_toInt (by omega) (by omega))
    · rw [pk_uLn e, show j = 0 by omega, pk_uLs]
      rfl
theorem M_isRoot_s {u : Nat → Int64} (hT : TT d be ga) (hb : TB b be) (hc : TB c ga) (h2 : L2 d be ga) (hr1 : -20 ≤ r) (hr2 : r ≤ 20) : Ok (M_isRoot (iZ r) (nI d) b c u) (fun z => z.1 = bI (decide (uZ be ga r (d + 1) = 0)) ∧ ∀ j, j < d + 1 → z.2 j = lZ (uZ be ga r j)) := by
  have hd := hT.1
  unfold M_isRoot
  refine fr2 (fun F x u => M_isRoot_l17 (nI d) b c F (iZ r) x u) (fun i x u => x = nI (i + 1) ∧ ∀ j, j < i + 2 → u j = lZ (uZ be ga r j)) (d - 1) (fuel_big (by omega)) ?_ ?_ 0 (Nat.zero_le _) 1 _ ⟨rfl, fun j hj => ?_⟩
  · rintro i hi x u ⟨rfl, h⟩ F ih
    have p1 := hT.2.1 (i + 1) (by omega)
    have p2 := hT.2.1 i (by omega)
    rw [M_isRoot_l17_s]
    unfold M_isRoot_n17
    rw [nI_pred, nI_1, cl_nI (by omega), cl_nI (by omega), cl_nI (by omega), h (i + 1) (by omega), h i (by omega), hc (i + 1) (by omega), hb i (by omega), n_lZ (by omega), n_lZ (by omega)]
    refine ok_f (nI_ge (by omega) (by omega)) (ok_e (M_a_s (by omega) hb hc) (ok_g (inb_nI (by omega) (by omega)) (ok_g (inb_nI (by omega) (by omega)) (ok_l (ok_g (inb_nI (by omega) (by omega)) (ih _ _ ⟨rfl, all_next.mpr ⟨fun j hj => by rw [pk_uLn (by omega)]; exact h j hj, ?_⟩⟩))))))
    rw [pk_uLs, ra_lZ hT (by omega) hr1 hr2, lZ_mul, lZ_mul, lZ_mul, lZ_sub]
    rfl
  · rintro x u ⟨rfl, h⟩ F
    have rg := uZ_rg hT h2 hr1 hr2
    rw [M_isRoot_l17_s]
    unfold M_isRoot_n17 M_isRoot_n81 M_isRoot_n157
    obtain ⟨k, rfl⟩ : ∃ k, d = k + 1 := ⟨d - 1, by omega⟩
    rw [Nat.add_sub_cancel] at h ⊢
    have p1 := hT.2.1 (k + 1) (by omega)
    have p2 := hT.2.1 k (by omega)
    have eu : uZ be ga r (k + 1 + 1) = (r - ia be ga (k + 1)) * uZ be ga r (k + 1) - (ga (k + 1) : Int) * (be k : Int) * uZ be ga r k := rfl
    rw [nI_pred, cl_nI (by omega), cl_nI (by omega), h (k + 1) (by omega), h k (by omega), hc (k + 1) (by omega), hb k (by omega), n_lZ (by omega), n_lZ (by omega), i_lZ (iZ_toInt (z := r) (by omega) (by omega))]
    refine ok_t (nI_le (Nat.le_refl _) (by omega)) (ok_g (inb_nI (by omega) (by omega)) (ok_g (inb_nI (by omega) (by omega)) (ok_e (M_a_s (by omega) hb hc) ?_)))
    rw [a_lZ hT (by omega), lZ_mul, lZ_mul, lZ_mul, lZ_mul, lZ_add]
    refine ok_i (fun q => ok_g isb_1 (ok_s ⟨?_, h⟩)) (fun q => ok_g isb_0 (ok_s ⟨?_, h⟩))
    · have q := (lgc_eq _ _).mp q
      have q2 : lZ (uZ be ga r (k + 1 + 1)) = 0 := by
        have e : uZ be ga r (k + 1 + 1) = r * uZ be ga r (k + 1) - ((ga (k + 1) : Int) * (be k : Int) * uZ be ga r k + ia be ga (k + 1) * uZ be ga r (k + 1)) := by rw [eu]; grind
        rw [e, ← lZ_sub, q, Int64.sub_self]
      rw [decide_eq_true ((lZ_0 rg.1 rg.2).mp q2)]; rfl
    · rw [decide_eq_false (fun h => q ((lgc_eq _ _).mpr (congrArg lZ ?_)))]
      · rfl
      · rw [eu] at h
        rw [Int.sub_mul] at h
        omega
  · show vp_updL (vp_updL u 0 1) 1 ((iZ r).toInt64) j = _
    by_cases e : j = 1
    · rw [e, pk_uLs]
      exact i_lZ (iZ_toInt (by omega) (by omega))
    · rw [pk_uLn e, show j = 0 by omega, pk_uLs]
      rfl
end ISROOT
