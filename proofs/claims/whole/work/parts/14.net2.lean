theorem lt1024 {i : Nat} (h : i < 1024) : ¬ (1024 : Int32) ≤ nI i := nI_ge h (by decide)
theorem M_fresh_s (x k1 k2 p0 : Int32) (road : Nat → Int32) : M_fresh x k1 k2 p0 road = some (0, 0, x, fa_fill (fun _ => 0) road 1024) := by
  unfold M_fresh
  apply ok_eq
  refine loop_ok (fun F (s : Int32 × (Nat → Int32)) => M_fresh_l7 F s.1 k1 k2 x s.2) (fun i s => s = (nI i, fa_fill (fun _ => 0) road i)) 1024 (fuel_big (by decide)) ?_ ?_ 0 (Nat.zero_le _) (0, road) ?_
  · rintro i hi s rfl F ih
    show Ok (M_fresh_l7 (F + 1) (nI i) k1 k2 x _) _
    rw [M_fresh_l7_s]
    unfold M_fresh_n7
    refine ok_f (lt1024 hi) (ok_g (inb_nI hi (by omega)) ?_)
    rw [cl_nI (by omega)]
    exact ih (nI i + 1, upd (fa_fill (fun _ => 0) road i) i 0) (by rw [nI_1]; exact congrArg (fun g => (nI (i + 1), g)) (fa_fill_succ (fun _ => 0) road i))
  · rintro s rfl F
    show Ok (M_fresh_l7 (F + 1) (nI 1024) k1 k2 x _) _
    rw [M_fresh_l7_s]
    unfold M_fresh_n7 M_fresh_n27
    exact ok_t (by decide) (ok_s rfl)
  · rw [fa_fill_0]; rfl
theorem M_clearNew_s (new : Nat → Int32) : M_clearNew new = some (fa_fill (fun _ => 0) new 1024) := by
  unfold M_clearNew
  apply ok_eq
  refine loop_ok (fun F (s : Int32 × (Nat → Int32)) => M_clearNew_l2 F s.1 s.2) (fun i s => s = (nI i, fa_fill (fun _ => 0) new i)) 1024 (fuel_big (by decide)) ?_ ?_ 0 (Nat.zero_le _) (0, new) ?_
  · rintro i hi s rfl F ih
    show Ok (M_clearNew_l2 (F + 1) (nI i) _) _
    rw [M_clearNew_l2_s]
    unfold M_clearNew_n2
    refine ok_f (lt1024 hi) (ok_g (inb_nI hi (by omega)) ?_)
    rw [cl_nI (by omega)]
    exact ih (nI i + 1, upd (fa_fill (fun _ => 0) new i) i 0) (by rw [nI_1]; exact congrArg (fun g => (nI (i + 1), g)) (fa_fill_succ (fun _ => 0) new i))
  · rintro s rfl F
    show Ok (M_clearNew_l2 (F + 1) (nI 1024) _) _
    rw [M_clearNew_l2_s]
    unfold M_clearNew_n2 M_clearNew_n22
    exact ok_t (by decide) (ok_s rfl)
  · rw [fa_fill_0]; rfl
theorem M_become_s (x k1 k2 p0 : Int32) (new road : Nat → Int32) (hb : ∀ j, j < 1024 → isb (new j) = true) : M_become x k1 k2 p0 new road = some (0, 0, x, fa_fill new road 1024) := by
  unfold M_become
  apply ok_eq
  refine loop_ok (fun F (s : Int32 × (Nat → Int32)) => M_become_l7 new F s.1 k1 k2 x s.2) (fun i s => s = (nI i, fa_fill new road i)) 1024 (fuel_big (by decide)) ?_ ?_ 0 (Nat.zero_le _) (0, road) ?_
  · rintro i hi s rfl F ih
    show Ok (M_become_l7 new (F + 1) (nI i) k1 k2 x _) _
    rw [M_become_l7_s]
    unfold M_become_n7
    rw [cl_nI (by omega)]
    refine ok_f (lt1024 hi) (ok_g (inb_nI hi (by omega)) (ok_g (hb i hi) ?_))
    exact ih (nI i + 1, upd (fa_fill new road i) i (new i)) (by rw [nI_1, fa_fill_succ])
  · rintro s rfl F
    show Ok (M_become_l7 new (F + 1) (nI 1024) k1 k2 x _) _
    rw [M_become_l7_s]
    unfold M_become_n7 M_become_n32
    exact ok_t (by decide) (ok_s rfl)
  · rw [fa_fill_0]; rfl
theorem M_keep_s (k0 p0 posts : Int32) (kept road : Nat → Int32) (hb : ∀ j, j < 1024 → isb (road j) = true) : M_keep k0 p0 posts kept road = some (1, 1, posts, fa_fill road kept 1024) := by
  unfold M_keep
  apply ok_eq
  refine loop_ok (fun F (s : Int32 × (Nat → Int32)) => M_keep_l15 road F s.1 1 posts s.2) (fun i s => s = (nI i, fa_fill road kept i)) 1024 (fuel_big (by decide)) ?_ ?_ 0 (Nat.zero_le _) (0, kept) ?_
  · rintro i hi s rfl F ih
    show Ok (M_keep_l15 road (F + 1) (nI i) 1 posts _) _
    rw [M_keep_l15_s]
    unfold M_keep_n15
    rw [cl_nI (by omega)]
    refine ok_f (lt1024 hi) (ok_g (inb_nI hi (by omega)) (ok_g (hb i hi) ?_))
    exact ih (nI i + 1, upd (fa_fill road kept i) i (road i)) (by rw [nI_1, fa_fill_succ])
  · rintro s rfl F
    show Ok (M_keep_l15 road (F + 1) (nI 1024) 1 posts _) _
    rw [M_keep_l15_s]
    unfold M_keep_n15 M_keep_n40
    exact ok_t (by decide) (ok_s rfl)
  · rw [fa_fill_0]; rfl
theorem M_back_s (k1 k2 kp p0 : Int32) (kept new road : Nat → Int32) (hb : ∀ j, j < 1024 → isb (kept j) = true) : Ok (M_back k1 1 k2 kp p0 kept new road) (fun z => z.1 = 1 ∧ z.2.1 = 0 ∧ z.2.2.1 = 0 ∧ z.2.2.2.1 = kp ∧ ∀ j, j < 1024 → z.2.2.2.2.2 j = kept j) := by
  unfold M_back
  refine ok_f (by decide) ?_
  refine loop_ok (fun F (s : Int32 × (Nat → Int32)) => M_back_l12 kp kept F s.1 k1 k2 p0 s.2 road) (fun i s => s = (nI i, fa_fill kept new i)) 1024 (fuel_big (by decide)) ?_ ?_ 0 (Nat.zero_le _) (0, new) ?_
  · rintro i hi s rfl F ih
    show Ok (M_back_l12 kp kept (F + 1) (nI i) k1 k2 p0 _ road) _
    rw [M_back_l12_s]
    unfold M_back_n12
    rw [cl_nI (by omega)]
    refine ok_f (lt1024 hi) (ok_g (inb_nI hi (by omega)) (ok_g (hb i hi) ?_))
    exact ih (nI i + 1, upd (fa_fill kept new i) i (kept i)) (by rw [nI_1, fa_fill_succ])
  · rintro s rfl F
    show Ok (M_back_l12 kp kept (F + 1) (nI 1024) k1 k2 p0 _ road) _
    rw [M_back_l12_s]
    unfold M_back_n12 M_back_n37
    refine ok_t (by decide) (ok_e (M_become_s _ _ _ _ _ _ (fun j hj => by show isb (fa_fill kept new 1024 j) = true; rw [fa_fill_in hj]; exact hb j hj)) (ok_s ⟨rfl, rfl, rfl, rfl, fun j hj => ?_⟩))
    show fa_fill (fa_fill kept new 1024) road 1024 j = _
    rw [fa_fill_in hj, fa_fill_in hj]
  · rw [fa_fill_0]; rfl
theorem Mb_isb {road : Nat → Int32} {adj : Nat → Nat → Bool} (h : Mb road adj) : ∀ j, j < 1024 → isb (road j) = true := by
  intro j hj
  have e : j = 32 * (j / 32) + j % 32 := by omega
  rw [e, h (j / 32) (by omega) (j % 32) (by omega)]
  exact isb_bI _
theorem Mb_of {road r2 : Nat → Int32} {adj : Nat → Nat → Bool} (h : Mb road adj) (e : ∀ j, j < 1024 → r2 j = road j) : Mb r2 adj := by
  intro p hp q hq
  rw [e _ (idx32 hp hq), h p hp q hq]
theorem Mb_empty (road : Nat → Int32) : Mb (fa_fill (fun _ => 0) road 1024) (fun _ _ => false) := by
  intro p hp q hq
  rw [fa_fill_in (idx32 hp hq)]; rfl
theorem Net_copyFrom_s (a b : Int32) (f g : Nat → Int32) : Ok (Net_copyFrom a b f g) (fun z => z.1 = a ∧ ∀ j, j < 32 → z.2 j = g j) := by
  unfold Net_copyFrom
  refine ok_s ⟨rfl, fun j hj => ?_⟩
  show va_cpy g f 0 0 32 j = g j
  rw [pk_cpy_in (Nat.zero_le j) (by omega)]
  congr 1
  omega
theorem Lb_of {near n2 : Nat → Int32} {adj : Nat → Nat → Bool} (h : Lb near adj) (e : ∀ j, j < 32 → n2 j = near j) : Lb n2 adj := by
  intro p hp q hq
  rw [e p hp, h p hp q hq]
theorem LN_forget_s (a b c d : Int32) : LN_forget a b c d = some (0, 0, -1, 0) := rfl
theorem M_joined_s {x y : Int32} {n : Nat} {road : Nat → Int32} {adj : Nat → Nat → Bool} (hn : n ≤ 32) (hb : Mb road adj) : M_joined x y (nI n) road = some (bI (inb x n && inb y n && adj x.toNatClampNeg y.toNatClampNeg)) := by
  unfold M_joined M_joined_n34 M_joined_n35
  rw [bnd_at (M_isPost_s (by omega))]
  cases hx : inb x n
  · rfl
  · rw [if_neg (by decide), bnd_at (M_isPost_s (by omega))]
    cases hy : inb y n
    · rfl
    · obtain ⟨p, hp, rfl⟩ := inb_of hx (by omega)
      obtain ⟨q, hq, rfl⟩ := inb_of hy (by omega)
      rw [if_neg (by decide), i32, gd_t (inb_nI (by omega) (by omega)), cl_nI (by omega), cl_nI (by omega), cl_nI (by omega), hb p (by omega) q (by omega)]
      cases adj p q <;> rfl
theorem LN_joined_s {x y : Int32} {n : Nat} {near : Nat → Int32} {adj : Nat → Nat → Bool} (hn : n ≤ 32) (hb : Lb near adj) : LN_joined x y (nI n) near = some (bI (inb x n && inb y n && adj x.toNatClampNeg y.toNatClampNeg)) := by
  unfold LN_joined
  rw [bnd_at (Net_areJoined_s hn hb), gd_t (isb_bI _)]
/-- net(n) -/
theorem LN_net_s {x : Int32} {a s0 b c d : Int32} {near : Nat → Int32} : (∃ n : Nat, n ≤ 32 ∧ x = nI n ∧ LN_net x a s0 b c d near = some (1, 0, nI n, 0, -1, 0, fa_fill (fun _ => 0) near 32)) ∨ ((¬ (0 ≤ x.toInt ∧ x.toInt ≤ 32)) ∧ LN_net x a s0 b c d near = some (-1, a, s0, b, c, d, near)) := by
  unfold LN_net LN_net_n10
  have z : (0 : Int32).toInt = 0 := rfl
  have z2 : (32 : Int32).toInt = 32 := rfl
  by_cases h1 : x < 0
  · rw [if_pos h1]
    exact Or.inr ⟨by rw [Int32.lt_iff_toInt_lt] at h1; omega, rfl⟩
  · rw [if_neg h1]
    by_cases h2 : x ≤ 32
    · rw [if_pos h2, bnd_at (Net_empty_s _ _ _), bnd_at (LN_forget_s _ _ _ _)]
      obtain ⟨n, hn, e⟩ := nI_of2 (M := 32) (n := 32) rfl h1 h2
      exact Or.inl ⟨n, hn, e, by rw [e]⟩
    · rw [if_neg h2]
      exact Or.inr ⟨by rw [Int32.le_iff_toInt_le] at h2; omega, rfl⟩
theorem M_net_s {x : Int32} {a b p0 : Int32} {road : Nat → Int32} : ((0 ≤ x.toInt ∧ x.toInt ≤ 32) → M_net x a b p0 road = some (1, 0, 0, x, fa_fill (fun _ => 0) road 1024)) ∧ ((¬ (0 ≤ x.toInt ∧ x.toInt ≤ 32)) → M_net x a b p0 road = some (-1, a, b, p0, road)) := by
  unfold M_net
  rw [show (0 : Int64) = (0 : Int32).toInt64 from rfl, show (32 : Int64) = (32 : Int32).toInt64 from rfl, bnd_at M_inI]
  have z : (0 : Int32).toInt = 0 := rfl
  have z2 : (32 : Int32).toInt = 32 := rfl
  refine ⟨fun h => ?_, fun h => ?_⟩
  · rw [decide_eq_true (by rw [Int32.le_iff_toInt_le, Int32.le_iff_toInt_le]; omega), if_neg (by decide), bnd_at (M_fresh_s _ _ _ _ _)]
  · rw [decide_eq_false (by rw [Int32.le_iff_toInt_le, Int32.le_iff_toInt_le]; omega), if_pos (by decide)]
