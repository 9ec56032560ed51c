/-! sheets -/
theorem LN_isSheet_s {x : Int32} : LN_isSheet x = some (bI (inb x 4)) := by
  unfold LN_isSheet LN_isSheet_n13 LN_isSheet_n14
  have z : (0 : Int32).toInt = 0 := rfl
  have z4 : (4 : Int32).toInt = 4 := rfl
  by_cases h1 : x < 0
  · rw [if_pos h1, show inb x 4 = false from inb_ff.mpr (by rw [Int32.lt_iff_toInt_lt] at h1; omega)]; rfl
  · rw [if_neg h1]
    by_cases h2 : (4 : Int32) ≤ x
    · rw [if_pos h2, show inb x 4 = false from inb_ff.mpr (by rw [Int32.le_iff_toInt_le] at h2; omega)]; rfl
    · rw [if_neg h2, show inb x 4 = true from inb_int.mpr (by rw [Int32.le_iff_toInt_le] at h2; rw [Int32.lt_iff_toInt_lt] at h1; omega)]; rfl
theorem M_isSheet_s {x : Int32} : M_isSheet x = some (bI (inb x 4)) := by
  unfold M_isSheet
  have e : M_in x.toInt64 0 3 = some (bI (inb x 4)) := by
    rw [show (0 : Int64) = (0 : Int32).toInt64 from rfl, show (3 : Int64) = (3 : Int32).toInt64 from rfl, M_inI]
    congr 2
    have z : (0 : Int32).toInt = 0 := rfl
    have z3 : (3 : Int32).toInt = 3 := rfl
    rw [Bool.eq_iff_iff, decide_eq_true_iff, inb_int, Int32.le_iff_toInt_le, Int32.le_iff_toInt_le]
    omega
  rw [bnd_at e, gd_t (isb_bI _)]
theorem no_sheet {x : Int32} (h0 : ¬ x = 0) (h1 : ¬ x = 1) (h2 : ¬ x = 2) (h3 : ¬ x = 3) : inb x 4 = false := by
  cases h : inb x 4
  · rfl
  · obtain ⟨j, hj, rfl⟩ := inb_of h (by decide)
    rcases (show j = 0 ∨ j = 1 ∨ j = 2 ∨ j = 3 by omega) with rfl | rfl | rfl | rfl
    · exact absurd rfl h0
    · exact absurd rfl h1
    · exact absurd rfl h2
    · exact absurd rfl h3
theorem Sh_has_s {x : Int32} {n : Nat} (hn : n < 2 ^ 31) : Sh_has x (nI n) = some (bI (inb x n)) := Net_has_s hn
/-- what sheet(r, kind, n) answers, r being one -/
def spSheet (x2 x3 : Int32) : Int32 := if x2 < 0 then -1 else if x2 ≤ 2 then (if 0 ≤ x3 then (if x3 ≤ 60 then 1 else -1) else -4) else -1
theorem spSheet_1 {x2 x3 : Int32} (h : spSheet x2 x3 = 1) : ∃ k m : Nat, k ≤ 2 ∧ m ≤ 60 ∧ x2 = nI k ∧ x3 = nI m := by
  unfold spSheet at h
  by_cases h1 : x2 < 0
  · rw [if_pos h1] at h; exact absurd h (by decide)
  · rw [if_neg h1] at h
    by_cases h2 : x2 ≤ 2
    · rw [if_pos h2] at h
      by_cases h3 : 0 ≤ x3
      · rw [if_pos h3] at h
        by_cases h4 : x3 ≤ 60
        · obtain ⟨k, hk, e1⟩ := nI_of2 (M := 2) (n := 2) rfl h1 h2
          obtain ⟨m, hm, e2⟩ := nI_of2 (M := 60) (n := 60) rfl (x := x3) (fun q => by rw [Int32.lt_iff_toInt_lt] at q; rw [Int32.le_iff_toInt_le] at h3; omega) h4
          exact ⟨k, m, hk, hm, e1, e2⟩
        · rw [if_neg h4] at h; exact absurd h (by decide)
      · rw [if_neg h3] at h; exact absurd h (by decide)
    · rw [if_neg h2] at h; exact absurd h (by decide)
def spCast (k : Int32) (v : Int32) : Int32 := if k = 0 then v.toInt8.toInt32 else if k = 1 then v.toInt16.toInt32 else v
theorem Sh_lay_s (x1 x2 a b c : Int32) (cells : Nat → Int32) : Sh_lay x1 x2 a b c cells = some (x2, x1, 1, fa_fill (fun _ => 0) cells 60) := by
  unfold Sh_lay
  rw [bnd_at (JA_fillI_s (by decide) 0 cells)]
theorem Sh_write_s {i : Nat} (hi : i < 60) (v k : Int32) (cells : Nat → Int32) : Sh_write (nI i) v k cells = some (upd cells i (spCast k v)) := by
  unfold Sh_write Sh_write_n44 spCast
  rw [gd_t (inb_nI hi (by decide)), gd_t (inb_nI hi (by decide)), gd_t (inb_nI hi (by decide)), cl_nI (by omega)]
  by_cases h0 : k = 0
  · rw [if_pos h0, if_pos h0]
  · rw [if_neg h0, if_neg h0]
    by_cases h1 : k = 1
    · rw [if_pos h1, if_pos h1]
    · rw [if_neg h1, if_neg h1]
theorem LN_sheet_s0_s (x2 x3 a b c : Int32) (cells : Nat → Int32) : LN_sheet_s0 x2 x3 a b c cells = if spSheet x2 x3 = 1 then some (1, x3, x2, 1, fa_fill (fun _ => 0) cells 60) else some (spSheet x2 x3, a, b, c, cells) := by
  unfold LN_sheet_s0 LN_sheet_s0_n16 spSheet
  rw [bnd_at LN_isSheet_s, if_neg (by decide), bnd_at (Sh_lay_s _ _ _ _ _ _)]
  by_cases h1 : x2 < 0
  · rw [if_pos h1, if_pos h1, if_neg (by decide)]
  · rw [if_neg h1, if_neg h1]
    by_cases h2 : x2 ≤ 2
    · rw [if_pos h2, if_pos h2]
      by_cases h3 : 0 ≤ x3
      · rw [if_pos h3, if_pos h3]
        by_cases h4 : x3 ≤ 60
        · rw [if_pos h4, if_pos h4, if_pos rfl]
        · rw [if_neg h4, if_neg h4, if_neg (by decide)]
      · rw [if_neg h3, if_neg h3, if_neg (by decide)]
    · rw [if_neg h2, if_neg h2, if_neg (by decide)]
theorem LN_lose_s0_s (c : Int32) : LN_lose_s0 c = if c = 0 then some (-3, c) else some (1, 0) := by
  unfold LN_lose_s0
  rw [bnd_at LN_isSheet_s, if_neg (by decide)]
theorem LN_cell_s0_s {x2 x3 k t : Int32} {m : Nat} (hm : m ≤ 60) (cells : Nat → Int32) : LN_cell_s0 x2 x3 (nI m) k t cells = if t = 0 then some (-3, cells) else if inb x2 m = true then some (1, upd cells x2.toNatClampNeg (spCast k x3)) else some (-1, cells) := by
  unfold LN_cell_s0
  rw [bnd_at LN_isSheet_s, if_neg (by decide)]
  by_cases h0 : t = 0
  · rw [if_pos h0, if_pos h0]
  · rw [if_neg h0, if_neg h0, bnd_at (Sh_has_s (by omega))]
    cases h : inb x2 m
    · rw [if_pos (by decide), if_neg (by decide)]
    · obtain ⟨i, hi, rfl⟩ := inb_of h (by omega)
      rw [if_neg (by decide), if_pos rfl, bnd_at (Sh_write_s (by omega) _ _ _), cl_nI (by omega)]
theorem LN_sheet_s1_s (x2 x3 a b c : Int32) (cells : Nat → Int32) : LN_sheet_s1 x2 x3 a b c cells = if spSheet x2 x3 = 1 then some (1, x3, x2, 1, fa_fill (fun _ => 0) cells 60) else some (spSheet x2 x3, a, b, c, cells) := by
  unfold LN_sheet_s1 LN_sheet_s1_n16 spSheet
  rw [bnd_at LN_isSheet_s, if_neg (by decide), bnd_at (Sh_lay_s _ _ _ _ _ _)]
  by_cases h1 : x2 < 0
  · rw [if_pos h1, if_pos h1, if_neg (by decide)]
  · rw [if_neg h1, if_neg h1]
    by_cases h2 : x2 ≤ 2
    · rw [if_pos h2, if_pos h2]
      by_cases h3 : 0 ≤ x3
      · rw [if_pos h3, if_pos h3]
        by_cases h4 : x3 ≤ 60
        · rw [if_pos h4, if_pos h4, if_pos rfl]
        · rw [if_neg h4, if_neg h4, if_neg (by decide)]
      · rw [if_neg h3, if_neg h3, if_neg (by decide)]
    · rw [if_neg h2, if_neg h2, if_neg (by decide)]
theorem LN_lose_s1_s (c : Int32) : LN_lose_s1 c = if c = 0 then some (-3, c) else some (1, 0) := by
  unfold LN_lose_s1
  rw [bnd_at LN_isSheet_s, if_neg (by decide)]
theorem LN_cell_s1_s {x2 x3 k t : Int32} {m : Nat} (hm : m ≤ 60) (cells : Nat → Int32) : LN_cell_s1 x2 x3 (nI m) k t cells = if t = 0 then some (-3, cells) else if inb x2 m = true then some (1, upd cells x2.toNatClampNeg (spCast k x3)) else some (-1, cells) := by
  unfold LN_cell_s1
  rw [bnd_at LN_isSheet_s, if_neg (by decide)]
  by_cases h0 : t = 0
  · rw [if_pos h0, if_pos h0]
  · rw [if_neg h0, if_neg h0, bnd_at (Sh_has_s (by omega))]
    cases h : inb x2 m
    · rw [if_pos (by decide), if_neg (by decide)]
    · obtain ⟨i, hi, rfl⟩ := inb_of h (by omega)
      rw [if_neg (by decide), if_pos rfl, bnd_at (Sh_write_s (by omega) _ _ _), cl_nI (by omega)]
theorem LN_sheet_s2_s (x2 x3 a b c : Int32) (cells : Nat → Int32) : LN_sheet_s2 x2 x3 a b c cells = if spSheet x2 x3 = 1 then some (1, x3, x2, 1, fa_fill (fun _ => 0) cells 60) else some (spSheet x2 x3, a, b, c, cells) := by
  unfold LN_sheet_s2 LN_sheet_s2_n16 spSheet
  rw [bnd_at LN_isSheet_s, if_neg (by decide), bnd_at (Sh_lay_s _ _ _ _ _ _)]
  by_cases h1 : x2 < 0
  · rw [if_pos h1, if_pos h1, if_neg (by decide)]
  · rw [if_neg h1, if_neg h1]
    by_cases h2 : x2 ≤ 2
    · rw [if_pos h2, if_pos h2]
      by_cases h3 : 0 ≤ x3
      · rw [if_pos h3, if_pos h3]
        by_cases h4 : x3 ≤ 60
        · rw [if_pos h4, if_pos h4, if_pos rfl]
        · rw [if_neg h4, if_neg h4, if_neg (by decide)]
      · rw [if_neg h3, if_neg h3, if_neg (by decide)]
    · rw [if_neg h2, if_neg h2, if_neg (by decide)]
theorem LN_lose_s2_s (c : Int32) : LN_lose_s2 c = if c = 0 then some (-3, c) else some (1, 0) := by
  unfold LN_lose_s2
  rw [bnd_at LN_isSheet_s, if_neg (by decide)]
theorem LN_cell_s2_s {x2 x3 k t : Int32} {m : Nat} (hm : m ≤ 60) (cells : Nat → Int32) : LN_cell_s2 x2 x3 (nI m) k t cells = if t = 0 then some (-3, cells) else if inb x2 m = true then some (1, upd cells x2.toNatClampNeg (spCast k x3)) else some (-1, cells) := by
  unfold LN_cell_s2
  rw [bnd_at LN_isSheet_s, if_neg (by decide)]
  by_cases h0 : t = 0
  · rw [if_pos h0, if_pos h0]
  · rw [if_neg h0, if_neg h0, bnd_at (Sh_has_s (by omega))]
    cases h : inb x2 m
    · rw [if_pos (by decide), if_neg (by decide)]
    · obtain ⟨i, hi, rfl⟩ := inb_of h (by omega)
      rw [if_neg (by decide), if_pos rfl, bnd_at (Sh_write_s (by omega) _ _ _), cl_nI (by omega)]
theorem LN_sheet_s3_s (x2 x3 a b c : Int32) (cells : Nat → Int32) : LN_sheet_s3 x2 x3 a b c cells = if spSheet x2 x3 = 1 then some (1, x3, x2, 1, fa_fill (fun _ => 0) cells 60) else some (spSheet x2 x3, a, b, c, cells) := by
  unfold LN_sheet_s3 LN_sheet_s3_n16 spSheet
  rw [bnd_at LN_isSheet_s, if_neg (by decide), bnd_at (Sh_lay_s _ _ _ _ _ _)]
  by_cases h1 : x2 < 0
  · rw [if_pos h1, if_pos h1, if_neg (by decide)]
  · rw [if_neg h1, if_neg h1]
    by_cases h2 : x2 ≤ 2
    · rw [if_pos h2, if_pos h2]
      by_cases h3 : 0 ≤ x3
      · rw [if_pos h3, if_pos h3]
        by_cases h4 : x3 ≤ 60
        · rw [if_pos h4, if_pos h4, if_pos rfl]
        · rw [if_neg h4, if_neg h4, if_neg (by decide)]
      · rw [if_neg h3, if_neg h3, if_neg (by decide)]
    · rw [if_neg h2, if_neg h2, if_neg (by decide)]
theorem LN_lose_s3_s (c : Int32) : LN_lose_s3 c = if c = 0 then some (-3, c) else some (1, 0) := by
  unfold LN_lose_s3
  rw [bnd_at LN_isSheet_s, if_neg (by decide)]
theorem LN_cell_s3_s {x2 x3 k t : Int32} {m : Nat} (hm : m ≤ 60) (cells : Nat → Int32) : LN_cell_s3 x2 x3 (nI m) k t cells = if t = 0 then some (-3, cells) else if inb x2 m = true then some (1, upd cells x2.toNatClampNeg (spCast k x3)) else some (-1, cells) := by
  unfold LN_cell_s3
  rw [bnd_at LN_isSheet_s, if_neg (by decide)]
  by_cases h0 : t = 0
  · rw [if_pos h0, if_pos h0]
  · rw [if_neg h0, if_neg h0, bnd_at (Sh_has_s (by omega))]
    cases h : inb x2 m
    · rw [if_pos (by decide), if_neg (by decide)]
    · obtain ⟨i, hi, rfl⟩ := inb_of h (by omega)
      rw [if_neg (by decide), if_pos rfl, bnd_at (Sh_write_s (by omega) _ _ _), cl_nI (by omega)]
theorem LN_sheet_so_s {x1 x2 x3 : Int32} (h : inb x1 4 = false) : LN_sheet_so x1 x2 x3 = some (-1) := by
  unfold LN_sheet_so LN_sheet_so_n16
  rw [bnd_at LN_isSheet_s, h, if_pos (by decide)]
theorem LN_cell_so_s {x1 x2 x3 : Int32} (h : inb x1 4 = false) : LN_cell_so x1 x2 x3 = some (-1) := by
  unfold LN_cell_so
  rw [bnd_at LN_isSheet_s, h, if_pos (by decide)]
theorem LN_lose_so_s {x1 : Int32} (h : inb x1 4 = false) : LN_lose_so x1 = some (-1) := by
  unfold LN_lose_so
  rw [bnd_at LN_isSheet_s, h, if_pos (by decide)]
/-! the model's sheets -/
theorem i60 (p q : Nat) : (60 : Int32) * nI p + nI q = nI (60 * p + q) := by
  rw [show (60 : Int32) = nI 60 from rfl, pk_mul, nI_add]
theorem M_sheet_r {r : Nat} (hr : r < 4) (x2 x3 : Int32) (ce ki si : Nat → Int32) : Ok (M_sheet (nI r) x2 x3 ce ki si) (fun z => if spSheet x2 x3 = 1 then z.1 = 1 ∧ z.2.2.1 = upd ki r x2 ∧ z.2.2.2 = upd si r x3 ∧ (∀ i, i < x3.toNatClampNeg → z.2.1 (60 * r + i) = 0) ∧ (∀ j, (j < 60 * r ∨ 60 * r + 60 ≤ j) → z.2.1 j = ce j) else z = (spSheet x2 x3, ce, ki, si)) := by
  unfold M_sheet M_sheet_n19
  refine ok_e M_isSheet_s ?_
  rw [inb_nI hr (by decide)]
  refine ok_f (by decide) ?_
  rw [show (0 : Int64) = (0 : Int32).toInt64 from rfl, show (2 : Int64) = (2 : Int32).toInt64 from rfl]
  refine ok_e M_inI ?_
  have z0 : (0 : Int32).toInt = 0 := rfl
  have z2 : (2 : Int32).toInt = 2 := rfl
  by_cases h1 : x2 < 0
  · rw [decide_eq_false (by rw [Int32.lt_iff_toInt_lt] at h1; rw [Int32.le_iff_toInt_le]; omega)]
    refine ok_t (by decide) (ok_s ?_)
    rw [show spSheet x2 x3 = -1 by unfold spSheet; rw [if_pos h1], if_neg (by decide)]
  · by_cases h2 : x2 ≤ 2
    · rw [decide_eq_true ⟨by rw [Int32.lt_iff_toInt_lt] at h1; rw [Int32.le_iff_toInt_le]; omega, h2⟩]
      refine ok_f (by decide) ?_
      by_cases h3 : 0 ≤ x3
      · refine ok_t h3 ?_
        by_cases h4 : x3 ≤ 60
        · refine ok_t h4 (ok_g rfl ?_)
          rw [show spSheet x2 x3 = 1 by unfold spSheet; rw [if_neg h1, if_pos h2, if_pos h3, if_pos h4], cl_nI (by omega)]
          obtain ⟨m, hm, rfl⟩ := nI_of2 (M := 60) (n := 60) rfl (x := x3) (fun q => by rw [Int32.lt_iff_toInt_lt] at q; rw [Int32.le_iff_toInt_le] at h3; omega) h4
          rw [cl_nI (by omega)]
          refine loop_ok (fun F (s : Int32 × (Nat → Int32)) => M_sheet_l53 F (nI r) (nI m) s.1 s.2 (upd ki r x2) (upd si r (nI m))) (fun i s => s.1 = nI i ∧ (∀ a, a < i → s.2 (60 * r + a) = 0) ∧ ∀ j, (j < 60 * r ∨ 60 * r + 60 ≤ j) → s.2 j = ce j) m (fuel_big (by omega)) ?_ ?_ 0 (Nat.zero_le _) (0, ce) ?_
          · rintro i hi ⟨s1, s2⟩ ⟨e1, e2, e3⟩ F ih
            obtain rfl : s1 = nI i := e1
            show Ok (M_sheet_l53 (F + 1) (nI r) (nI m) (nI i) s2 _ _) _
            rw [M_sheet_l53_s]
            unfold M_sheet_n53
            rw [i60]
            refine ok_f (nI_ge hi (by omega)) (ok_g (inb_nI (by omega) (by omega)) ?_)
            rw [cl_nI (by omega)]
            refine ih (nI i + 1, upd s2 (60 * r + i) 0) ⟨nI_1 i, fun a ha => ?_, fun j hj => ?_⟩
            · show upd s2 (60 * r + i) 0 (60 * r + a) = 0
              rw [updI]
              split
              · rfl
              · exact e2 a (by omega)
            · show upd s2 (60 * r + i) 0 j = ce j
              rw [updN (by omega)]
              exact e3 j hj
          · rintro ⟨s1, s2⟩ ⟨e1, e2, e3⟩ F
            obtain rfl : s1 = nI m := e1
            show Ok (M_sheet_l53 (F + 1) (nI r) (nI m) (nI m) s2 _ _) _
            rw [M_sheet_l53_s]
            unfold M_sheet_n53 M_sheet_n78
            refine ok_t (nI_le (Nat.le_refl m) (by omega)) (ok_s ?_)
            rw [if_pos rfl]
            exact ⟨rfl, rfl, rfl, e2, e3⟩
          · exact ⟨rfl, fun a ha => absurd ha (Nat.not_lt_zero a), fun j _ => rfl⟩
        · refine ok_f h4 (ok_s ?_)
          rw [show spSheet x2 x3 = -1 by unfold spSheet; rw [if_neg h1, if_pos h2, if_pos h3, if_neg h4], if_neg (by decide)]
      · refine ok_f h3 (ok_s ?_)
        rw [show spSheet x2 x3 = -4 by unfold spSheet; rw [if_neg h1, if_pos h2, if_neg h3], if_neg (by decide)]
    · rw [decide_eq_false (fun q => h2 q.2)]
      refine ok_t (by decide) (ok_s ?_)
      rw [show spSheet x2 x3 = -1 by unfold spSheet; rw [if_neg h1, if_neg h2], if_neg (by decide)]
theorem M_sheet_o {x1 : Int32} (h : inb x1 4 = false) (x2 x3 : Int32) (ce ki si : Nat → Int32) : M_sheet x1 x2 x3 ce ki si = some (-1, ce, ki, si) := by
  unfold M_sheet M_sheet_n19
  rw [bnd_at M_isSheet_s, h, if_pos (by decide)]
theorem M_lose_r {r : Nat} (hr : r < 4) (si : Nat → Int32) : M_lose (nI r) si = if 0 ≤ si r then some (1, upd si r (-1)) else some (-3, si) := by
  unfold M_lose
  rw [bnd_at M_isSheet_s, inb_nI hr (by decide), if_neg (by decide), gd_t rfl, cl_nI (by omega)]
theorem M_lose_o {x1 : Int32} (h : inb x1 4 = false) (si : Nat → Int32) : M_lose x1 si = some (-1, si) := by
  unfold M_lose
  rw [bnd_at M_isSheet_s, h, if_pos (by decide)]
theorem M_cell_r {r m : Nat} (hr : r < 4) (hm : m ≤ 60) (x2 x3 : Int32) {ce ki si : Nat → Int32} (hs : si r = nI m) : M_cell (nI r) x2 x3 ce ki si = if inb x2 m = true then some (1, upd ce (60 * r + x2.toNatClampNeg) (spCast (ki r) x3)) else some (-1, ce) := by
  unfold M_cell M_cell_n81
  rw [bnd_at M_isSheet_s, inb_nI hr (by decide), if_neg (by decide), gd_t rfl, cl_nI (by omega), hs, if_pos (nI_pos' (by omega))]
  have e : M_in x2.toInt64 0 (nI m - 1).toInt64 = some (bI (inb x2 m)) := by
    have := M_isPost_s (x := x2) (n := m) (by omega)
    unfold M_isPost at this
    obtain ⟨a, h1, h2⟩ := bnd_some this
    obtain ⟨-, h3⟩ := gd_some h2
    rw [h1, h3]
  rw [bnd_at e]
  cases h : inb x2 m
  · rw [if_pos (by decide), if_neg (by decide)]
  · obtain ⟨i, hi, rfl⟩ := inb_of h (by omega)
    rw [if_neg (by decide), if_pos rfl, i60, gd_t (inb_nI (by omega) (by decide)), gd_t (inb_nI (by omega) (by decide)), gd_t (inb_nI (by omega) (by decide)), cl_nI (by omega), cl_nI (by omega)]
    unfold spCast
    by_cases h0 : ki r = 0
    · rw [if_pos h0, if_pos h0]
    · rw [if_neg h0, if_neg h0]
      by_cases h1 : ki r = 1
      · rw [if_pos h1, if_pos h1]
      · rw [if_neg h1, if_neg h1]
theorem M_cell_m {r : Nat} (hr : r < 4) (x2 x3 : Int32) {ce ki si : Nat → Int32} (hs : si r = -1) : M_cell (nI r) x2 x3 ce ki si = some (-3, ce) := by
  unfold M_cell
  rw [bnd_at M_isSheet_s, inb_nI hr (by decide), if_neg (by decide), gd_t rfl, cl_nI (by omega), hs, if_neg (by decide)]
theorem M_cell_o {x1 : Int32} (h : inb x1 4 = false) (x2 x3 : Int32) (ce ki si : Nat → Int32) : M_cell x1 x2 x3 ce ki si = some (-1, ce) := by
  unfold M_cell
  rw [bnd_at M_isSheet_s, h, if_pos (by decide)]
