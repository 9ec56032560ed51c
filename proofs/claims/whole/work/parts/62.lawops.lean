
/-! the calls that ask about the told numbers -/
section LAWOPS
variable {d : Nat} {be ga : Nat → Nat} {b c : Nat → Int32} {br jd rc : Int32} {tot : Int64} {ro ti : Nat → Int32} {k u t : Nat → Int64}
noncomputable def AllB (d : Nat) (be ga : Nat → Nat) (m : Nat) : Bool := @decide (AllL d be ga m) (Classical.propDecidable _)
theorem AllB_t {m : Nat} : AllB d be ga m = true ↔ AllL d be ga m := by
  unfold AllB
  exact ⟨fun h => @of_decide_eq_true _ (Classical.propDecidable _) h, fun h => @decide_eq_true _ (Classical.propDecidable _) h⟩
def rW (d : Nat) (x : Int32) : Bool := decide (0 ≤ x ∧ x ≤ nI d)
theorem Td_hasRow_s (x : Int32) : Td_hasRow x (nI d) = some (bI (rW d x)) := by
  unfold Td_hasRow Td_hasRow_n16 Td_hasRow_n17 rW
  by_cases a : x < 0
  · rw [if_pos a, decide_eq_false (fun h => nlt_le.mpr h.1 a)]; rfl
  · by_cases b : nI d < x
    · rw [if_neg a, if_pos b, decide_eq_false (fun h => nlt_le.mpr h.2 b)]; rfl
    · rw [if_neg a, if_neg b, decide_eq_true ⟨nlt_le.mp a, nlt_le.mp b⟩]; rfl
theorem M_row_s (x : Int32) : M_in x.toInt64 0 (nI d).toInt64 = some (bI (rW d x)) := M_inI (lo := 0) (hi := nI d)
theorem rW_t {x : Int32} (hd : d ≤ 5) (h : rW d x = true) : ∃ i, i < d + 1 ∧ x = nI i := by
  have h := of_decide_eq_true h
  obtain ⟨i, hi, rfl⟩ := nI_of (nlt_le.mpr h.1)
  exact ⟨i, by have := (nI_leI hi (by omega)).mp h.2; omega, rfl⟩
theorem r03 (x : Int32) : M_in x.toInt64 0 3 = some (bI (decide (0 ≤ x ∧ x ≤ 3))) := M_inI (lo := 0) (hi := 3)
theorem r08 (x : Int32) : M_in x.toInt64 0 8 = some (bI (decide (0 ≤ x ∧ x ≤ 8))) := M_inI (lo := 0) (hi := 8)
theorem LN_can_s (hT : TT d be ga) (hb : TB b be) (hc : TB c ga) (hj : JK d be ga br jd rc tot ro ti k t) : Ok (LN_can br jd (nI d) rc tot b c ro ti k u t) (fun z => FB (Lw d be ga) 7 z.1 ∧ JY d be ga z.2) := by
  unfold LN_can
  exact ok_b (Td_firstBroken_s hT hb hc hj) (fun z hz => ok_s ⟨by rw [hz.1]; exact hz.2.1, hz.2⟩)
theorem M_can_s {all : Int64} {k t u : Nat → Int64} (hT : TT d be ga) (hb : TB b be) (hc : TB c ga) : Ok (M_can (nI d) all b c k t u) (fun z => FB (Lw d be ga) 7 z.1) := by
  unfold M_can M_can_n26
  refine ok_b (M_laws_s hT hb hc) (fun z1 e1 => ok_i (fun q => ?_) (fun q => ok_s (FB_up e1.1 (fun h => q ((FB_le0 e1.1 (by omega)).mpr h)) (by omega))))
  obtain ⟨a6, et, ek, eT⟩ := e1.2.1 q
  have h1 := Lw1.mp (a6 1 (by omega) (by omega))
  have h2 := Lw2.mp (a6 2 (by omega) (by omega))
  have h4 := Lw4'.mp (a6 4 (by omega) (by omega))
  have h6 := Lw6.mp (a6 6 (by omega) (by omega))
  rw [et]
  refine ok_b (M_areTimesWhole_s hT hb hc h1 h2 h4 h6 (RO_all hT h1 h2 h4 h6) ek) (fun z2 e2 => ok_i (fun q2 => ok_s (FB_at (i := 7) (by omega) (by omega) (fun h => (z01 e2).1 q2 (Lw7.mp h)) (fun j a b => a6 j a (by omega)))) (fun q2 => ok_s (Or.inl ⟨rfl, AllL_s a6 (Lw7.mpr ((z01 e2).2 q2))⟩)))
noncomputable def spPosts (d : Nat) (be ga : Nat → Nat) : Int32 := if AllB d be ga 4 = true then (lN (tN be ga d)).toInt32 else -6
theorem LN_posts_s (hT : TT d be ga) (hb : TB b be) (hc : TB c ga) (hj : JK d be ga br jd rc tot ro ti k t) : Ok (LN_posts br jd (nI d) rc tot b c ro ti k u t) (fun z => z.1 = spPosts d be ga ∧ JY d be ga z.2) := by
  unfold LN_posts LN_posts_n24 spPosts
  refine ok_b (Td_keepsLawsTo_s (m := 4) (by omega) hT hb hc hj) (fun z hz => ok_i (fun q => ok_s ⟨?_, hz.2⟩) (fun q => ok_s ⟨?_, hz.2⟩))
  · rw [if_neg (fun e => (z01 hz.1).1 q (AllB_t.mp e))]
  · have h := (z01 hz.1).2 q
    rw [if_pos (AllB_t.mpr h), ← (hz.2.2.1 h).1]
theorem M_posts_s {all : Int64} {k : Nat → Int64} (hT : TT d be ga) (hb : TB b be) (hc : TB c ga) : Ok (M_posts (nI d) all b c k) (fun z => z.1 = spPosts d be ga) := by
  unfold M_posts M_posts_n17 spPosts
  refine ok_b (M_first_s hT hb hc) (fun z hz => ok_i (fun q => ok_s ?_) (fun q => ok_s ?_))
  · rw [if_pos (AllB_t.mpr (hz.2.1 q).1), (hz.2.1 q).2.1]
  · rw [if_neg (fun e => hz.2.2 q (AllB_t.mp e))]
noncomputable def spEntry (d : Nat) (be ga : Nat → Nat) (x y : Int32) : Int32 := if (0 ≤ y ∧ y ≤ 3) ∧ rW d x = true then (if AllB d be ga 4 = true then (if y = 0 then nI (ga x.toNatClampNeg) else if y = 1 then lI be ga x.toNatClampNeg else if y = 2 then nI (be x.toNatClampNeg) else (lN (kN be ga x.toNatClampNeg)).toInt32) else -6) else -1
theorem LN_entry_s {x y : Int32} (hT : TT d be ga) (hb : TB b be) (hc : TB c ga) (hj : JK d be ga br jd rc tot ro ti k t) : Ok (LN_entry x y br jd (nI d) rc tot b c ro ti k u t) (fun z => z.1 = spEntry d be ga x y ∧ (z.2 = (br, jd, rc, tot, ro, ti, k, u, t) ∨ JY d be ga z.2)) := by
  have hd := hT.1
  unfold LN_entry LN_entry_n20 spEntry
  refine ok_i (fun q => ok_s ⟨?_, Or.inl rfl⟩) (fun q => ok_i (fun q2 => ok_s ⟨?_, Or.inl rfl⟩) (fun q2 => ok_e (Td_hasRow_s x) (ok_i (fun q3 => ok_s ⟨?_, Or.inl rfl⟩) (fun q3 => ?_))))
  · rw [if_neg (fun h => nlt_le.mpr h.1.1 q)]
  · rw [if_neg (fun h => nlt_le.mpr h.1.2 q2)]
  · rw [if_neg (fun h => absurd (h.2.symm.trans (bI_eq0.mp q3)) (by decide))]
  obtain ⟨i, hi, rfl⟩ := rW_t (by omega) (not_t q3)
  rw [if_pos ⟨⟨nlt_le.mp q, nlt_le.mp q2⟩, not_t q3⟩, cl_nI (by omega)]
  refine ok_b (Td_keepsLawsTo_s (m := 4) (by omega) hT hb hc hj) (fun z hz => ok_i (fun g => ok_s ⟨?_, Or.inr hz.2⟩) (fun g => ?_))
  · rw [if_neg (fun e => (z01 hz.1).1 g (AllB_t.mp e))]
  have h := (z01 hz.1).2 g
  have hk := (hz.2.2.1 h).2 i hi
  rw [if_pos (AllB_t.mpr h)]
  refine ok_i (fun e => ok_g (inb_nI (by omega) (by omega)) (ok_s ⟨?_, Or.inr hz.2⟩)) (fun e => ok_i (fun e2 => ok_e (Td_level_s (by omega) hb hc) (ok_s ⟨?_, Or.inr hz.2⟩)) (fun e2 => ok_i (fun e3 => ok_g (inb_nI (by omega) (by omega)) (ok_s ⟨?_, Or.inr hz.2⟩)) (fun e3 => ok_g (inb_nI (by omega) (by omega)) (ok_s ⟨?_, Or.inr hz.2⟩))))
  · rw [if_pos e]; exact hc i (by omega)
  · rw [if_neg e, if_pos e2]
  · rw [if_neg e, if_neg e2, if_pos e3]; exact hb i (by omega)
  · rw [if_neg e, if_neg e2, if_neg e3]; exact congrArg Int64.toInt32 hk
theorem M_entry_s {x y : Int32} {all : Int64} {k : Nat → Int64} (hT : TT d be ga) (hb : TB b be) (hc : TB c ga) : Ok (M_entry x y (nI d) all b c k) (fun z => z.1 = spEntry d be ga x y) := by
  have hd := hT.1
  unfold M_entry M_entry_n26 M_entry_n85 spEntry
  refine ok_e (r03 y) (ok_i (fun q => ok_s ?_) (fun q => ok_e (M_row_s x) (ok_i (fun q3 => ok_s ?_) (fun q3 => ?_))))
  · rw [if_neg (fun h => of_decide_eq_false (bI_eq0.mp q) h.1)]
  · rw [if_neg (fun h => absurd (h.2.symm.trans (bI_eq0.mp q3)) (by decide))]
  obtain ⟨i, hi, rfl⟩ := rW_t (by omega) (not_t q3)
  rw [if_pos ⟨of_decide_eq_true (not_t q), not_t q3⟩, cl_nI (by omega)]
  refine ok_b (M_first_s hT hb hc) (fun z hz => ok_i (fun g => ?_) (fun g => ok_s ?_))
  rotate_left
  · rw [if_neg (fun e => hz.2.2 g (AllB_t.mp e))]
  have hk := (hz.2.1 g).2.2 i hi
  rw [if_pos (AllB_t.mpr (hz.2.1 g).1)]
  refine ok_i (fun e => ok_g (inb_nI (by omega) (by omega)) (ok_s ?_)) (fun e => ok_i (fun e2 => ok_e (M_a_s (by omega) hb hc) (ok_s ?_)) (fun e2 => ok_i (fun e3 => ok_g (inb_nI (by omega) (by omega)) (ok_s ?_)) (fun e3 => ok_g (inb_nI (by omega) (by omega)) (ok_s ?_))))
  · rw [if_pos e]; exact hc i (by omega)
  · rw [if_neg e, if_pos e2]
  · rw [if_neg e, if_neg e2, if_pos e3]; exact hb i (by omega)
  · rw [if_neg e, if_neg e2, if_neg e3]; exact congrArg Int64.toInt32 hk
noncomputable def spThird (d : Nat) (be ga : Nat → Nat) (x y w : Int32) : Int32 := if rW d x = true ∧ rW d y = true ∧ rW d w = true then (if AllB d be ga 6 = true then (lZ (tZ d be ga y.toNatClampNeg x.toNatClampNeg w.toNatClampNeg)).toInt32 else -6) else -1
theorem rWno {x : Int32} (q : bI (rW d x) = 0) : ¬ rW d x = true := fun h => absurd (h.symm.trans (bI_eq0.mp q)) (by decide)
theorem LN_third_s {x y w : Int32} (hT : TT d be ga) (hb : TB b be) (hc : TB c ga) (hj : JK d be ga br jd rc tot ro ti k t) : Ok (LN_third x y w br jd (nI d) rc tot b c ro ti k u t) (fun z => z.1 = spThird d be ga x y w ∧ (z.2 = (br, jd, rc, tot, ro, ti, k, u, t) ∨ JY d be ga z.2)) := by
  have hd := hT.1
  unfold LN_third LN_third_n33 LN_third_n67 spThird
  refine ok_e (Td_hasRow_s x) (ok_i (fun q => ok_s ⟨?_, Or.inl rfl⟩) (fun q => ok_e (Td_hasRow_s y) (ok_i (fun q2 => ok_s ⟨?_, Or.inl rfl⟩) (fun q2 => ok_e (Td_hasRow_s w) (ok_i (fun q3 => ok_s ⟨?_, Or.inl rfl⟩) (fun q3 => ?_))))))
  · rw [if_neg (fun h => rWno q h.1)]
  · rw [if_neg (fun h => rWno q2 h.2.1)]
  · rw [if_neg (fun h => rWno q3 h.2.2)]
  rw [if_pos ⟨not_t q, not_t q2, not_t q3⟩]
  obtain ⟨i, hi, rfl⟩ := rW_t (by omega) (not_t q)
  obtain ⟨j, hj', rfl⟩ := rW_t (by omega) (not_t q2)
  obtain ⟨l, hl, rfl⟩ := rW_t (by omega) (not_t q3)
  have q0 := dx_lt (i := i) (j := j) (l := l) (by omega) (by omega) (by omega)
  rw [cl_nI (by omega), cl_nI (by omega), cl_nI (by omega)]
  refine ok_b (Td_keepsLawsTo_s (m := 6) (by omega) hT hb hc hj) (fun z hz => ok_i (fun g => ok_s ⟨?_, Or.inr hz.2⟩) (fun g => ok_e Td_place_s (ok_g (inb_nI (by omega) (by omega)) (ok_s ⟨?_, Or.inr hz.2⟩))))
  · rw [if_neg (fun e => (z01 hz.1).1 g (AllB_t.mp e))]
  · have h := (z01 hz.1).2 g
    rw [if_pos (AllB_t.mpr h), cl_nI (by omega)]
    exact congrArg Int64.toInt32 ((hz.2.2.2 h).1 j hj' i hi l hl)
theorem M_third_s {x y w : Int32} {all : Int64} {k t : Nat → Int64} (hT : TT d be ga) (hb : TB b be) (hc : TB c ga) : Ok (M_third x y w (nI d) all b c k t) (fun z => z.1 = spThird d be ga x y w) := by
  have hd := hT.1
  unfold M_third M_third_n42 M_third_n73 spThird
  refine ok_e (M_row_s x) (ok_i (fun q => ok_s ?_) (fun q => ok_e (M_row_s y) (ok_i (fun q2 => ok_s ?_) (fun q2 => ok_e (M_row_s w) (ok_i (fun q3 => ok_s ?_) (fun q3 => ?_))))))
  · rw [if_neg (fun h => rWno q h.1)]
  · rw [if_neg (fun h => rWno q2 h.2.1)]
  · rw [if_neg (fun h => rWno q3 h.2.2)]
  rw [if_pos ⟨not_t q, not_t q2, not_t q3⟩]
  obtain ⟨i, hi, rfl⟩ := rW_t (by omega) (not_t q)
  obtain ⟨j, hj', rfl⟩ := rW_t (by omega) (not_t q2)
  obtain ⟨l, hl, rfl⟩ := rW_t (by omega) (not_t q3)
  have q0 := dx_lt (i := i) (j := j) (l := l) (by omega) (by omega) (by omega)
  rw [M_dx, cl_nI (by omega), cl_nI (by omega), cl_nI (by omega), cl_nI (by omega)]
  refine ok_b (M_laws_s hT hb hc) (fun z hz => ok_i (fun g => ok_g (inb_nI (by omega) (by omega)) (ok_s ?_)) (fun g => ok_s ?_))
  · rw [if_pos (AllB_t.mpr (hz.2.1 g).1)]
    exact congrArg Int64.toInt32 ((hz.2.1 g).2.2.2 j hj' i hi l hl)
  · rw [if_neg (fun e => hz.2.2 g (AllB_t.mp e))]
noncomputable def spRoot (d : Nat) (be ga : Nat → Nat) (x y : Int32) : Int32 := if y = 0 ∨ y = 1 then (if AllB d be ga 6 = true then (if 0 ≤ x ∧ x < nI (rC be ga d) then (if y = 0 then rV be ga d x.toNatClampNeg else rT be ga d x.toNatClampNeg) else -1002) else -1001) else -1000
theorem LN_root_s {x y : Int32} (hT : TT d be ga) (hb : TB b be) (hc : TB c ga) (hj : JK d be ga br jd rc tot ro ti k t) : Ok (LN_root x y br jd (nI d) rc tot b c ro ti k u t) (fun z => z.1 = spRoot d be ga x y ∧ (z.2 = (br, jd, rc, tot, ro, ti, k, u, t) ∨ JY d be ga z.2)) := by
  have hd := hT.1
  have c6 := rC_le be ga d
  have main : (y = 0 ∨ y = 1) → Ok (LN_root_n13 (nI d) b c x y br jd rc tot ro ti k u t) (fun z => z.1 = spRoot d be ga x y ∧ (z.2 = (br, jd, rc, tot, ro, ti, k, u, t) ∨ JY d be ga z.2)) := by
    intro hy
    unfold LN_root_n13 LN_root_n44 LN_root_n73 spRoot
    rw [if_pos hy]
    refine ok_b (Td_keepsLawsTo_s (m := 6) (by omega) hT hb hc hj) (fun z hz => ok_i (fun g => ok_s ⟨?_, Or.inr hz.2⟩) (fun g => ?_))
    · rw [if_neg (fun e => (z01 hz.1).1 g (AllB_t.mp e))]
    have h := (z01 hz.1).2 g
    obtain ⟨_, erc, er⟩ := hz.2.2.2 h
    have erc : z.2.2.2.1 = nI (rC be ga d) := erc
    rw [if_pos (AllB_t.mpr h), erc]
    refine ok_i (fun e => ok_s ⟨?_, Or.inr (by have := hz.2; unfold JY at this ⊢; rw [← erc]; exact this)⟩) (fun e => ok_i (fun e2 => ?_) (fun e2 => ok_s ⟨?_, Or.inr (by have := hz.2; unfold JY at this ⊢; rw [← erc]; exact this)⟩))
    · rw [if_neg (fun h => nlt_le.mpr h.1 e)]
    · obtain ⟨i, hi, rfl⟩ := nI_of e
      have hi2 := (nI_ltI hi (by omega)).mp e2
      have hx : 0 ≤ nI i ∧ nI i < nI (rC be ga d) := ⟨nlt_le.mp e, e2⟩
      rw [if_pos hx, cl_nI (by omega)]
      refine ok_i (fun e3 => ok_g (inb_nI (by omega) (by omega)) (ok_s ⟨?_, Or.inr (by have := hz.2; unfold JY at this ⊢; rw [← erc]; exact this)⟩)) (fun e3 => ok_g (inb_nI (by omega) (by omega)) (ok_s ⟨?_, Or.inr (by have := hz.2; unfold JY at this ⊢; rw [← erc]; exact this)⟩))
      · rw [if_pos e3]; exact (er i hi2).1
      · rw [if_neg e3]; exact (er i hi2).2
    · rw [if_neg (fun h => e2 h.2)]
  unfold LN_root
  refine ok_i (fun q => main (Or.inl q)) (fun q => ok_i (fun q2 => main (Or.inr q2)) (fun q2 => ok_s ⟨?_, Or.inl rfl⟩))
  unfold spRoot
  rw [if_neg (fun h => h.elim q q2)]
theorem M_root_s {x y : Int32} {all : Int64} {k t u : Nat → Int64} (hT : TT d be ga) (hb : TB b be) (hc : TB c ga) : Ok (M_root x y (nI d) all b c k t u) (fun z => z.1 = spRoot d be ga x y) := by
  have hd := hT.1
  have c6 := rC_le be ga d
  unfold M_root spRoot
  refine ok_e (r01 y) (ok_i (fun q => ok_s ?_) (fun q => ?_))
  · rw [if_neg (fun h => of_decide_eq_false (bI_eq0.mp q) (in01.mpr h))]
  rw [if_pos (in01.mp (of_decide_eq_true (not_t q))), show (0 : Int32).toNatClampNeg = 0 from rfl, hb 0 (by omega)]
  refine ok_b (M_laws_s hT hb hc) (fun z hz => ok_i (fun g => ?_) (fun g => ok_s ?_))
  rotate_left
  · rw [if_neg (fun e => hz.2.2 g (AllB_t.mp e))]
  obtain ⟨a6, et, ek, eT⟩ := hz.2.1 g
  have h1 := Lw1.mp (a6 1 (by omega) (by omega))
  have h2 := Lw2.mp (a6 2 (by omega) (by omega))
  have h4 := Lw4'.mp (a6 4 (by omega) (by omega))
  have h6 := Lw6.mp (a6 6 (by omega) (by omega))
  rw [if_pos (AllB_t.mpr a6), et]
  refine ok_m (M_rootL_s hT hb hc h1 h2 h4 h6 (RO_all hT h1 h2 h4 h6) ek) (fun v hv => ?_)
  by_cases e : 0 ≤ x ∧ x < nI (rC be ga d)
  · obtain ⟨i, hi, rfl⟩ := nI_of (nlt_le.mpr e.1)
    rw [if_pos e, cl_nI hi]
    exact hv.1 i ((nI_ltI hi (by omega)).mp e.2) rfl
  · rw [if_neg e]
    refine hv.2 (fun i hi h => e ?_)
    rw [h]
    exact ⟨nI_le (Nat.zero_le _) (by omega), nI_lt hi (by omega)⟩
noncomputable def spWalks (d : Nat) (be ga : Nat → Nat) (x y : Int32) : Int64 := if rW d x = true ∧ (0 ≤ y ∧ y ≤ 8) then (if AllB d be ga 4 = true then wK be ga d y.toNatClampNeg x.toNatClampNeg else -6) else -1
theorem LN_walks_s {x y : Int32} {wr : Nat → Int64} (hT : TT d be ga) (hb : TB b be) (hc : TB c ga) (hj : JK d be ga br jd rc tot ro ti k t) : Ok (LN_walks x y br jd (nI d) rc tot b c ro ti k u t wr) (fun z => z.1 = spWalks d be ga x y ∧ ((∃ w, z.2 = (br, jd, rc, tot, ro, ti, k, u, t, w)) ∨ JC d be ga z.2.1 z.2.2.2.1 z.2.2.2.2.1 z.2.2.2.2.2.1 z.2.2.2.2.2.2.1 z.2.2.2.2.2.2.2.1 z.2.2.2.2.2.2.2.2.2.1)) := by
  have hd := hT.1
  unfold LN_walks LN_walks_n21 LN_walks_n51 spWalks
  refine ok_e (Td_hasRow_s x) (ok_i (fun q => ok_s ⟨?_, Or.inl ⟨_, rfl⟩⟩) (fun q => ok_i (fun q2 => ok_s ⟨?_, Or.inl ⟨_, rfl⟩⟩) (fun q2 => ok_i (fun q3 => ?_) (fun q3 => ok_s ⟨?_, Or.inl ⟨_, rfl⟩⟩))))
  · rw [if_neg (fun h => rWno q h.1)]
  · rw [if_neg (fun h => nlt_le.mpr h.2.1 q2)]
  · obtain ⟨i, hi, rfl⟩ := rW_t (by omega) (not_t q)
    rw [if_pos ⟨not_t q, nlt_le.mp q2, q3⟩]
    obtain ⟨m, hm, rfl⟩ := nI_of q2
    have hm2 : m ≤ 8 := (nI_leI (b := 8) hm (by decide)).mp q3
    rw [cl_nI (by omega), cl_nI (by omega)]
    refine ok_b (Td_keepsLawsTo_s (m := 4) (by omega) hT hb hc hj) (fun z hz => ok_i (fun g => ok_s ⟨?_, Or.inr hz.2⟩) (fun g => ok_b (Td_countWalks_s hT hb hc hi hm2) (fun v hv => ok_s ⟨?_, Or.inr hz.2⟩)))
    · rw [if_neg (fun e => (z01 hz.1).1 g (AllB_t.mp e))]
    · rw [if_pos (AllB_t.mpr ((z01 hz.1).2 g))]; exact hv
  · rw [if_neg (fun h => q3 h.2.2)]
theorem M_walks_s {x y : Int32} {all : Int64} {nx k wk : Nat → Int64} (hT : TT d be ga) (hb : TB b be) (hc : TB c ga) : Ok (M_walks x y (nI d) all b c nx k wk) (fun z => z.1 = spWalks d be ga x y) := by
  have hd := hT.1
  unfold M_walks M_walks_n26 spWalks
  refine ok_e (M_row_s x) (ok_i (fun q => ok_s ?_) (fun q => ok_e (r08 y) (ok_i (fun q2 => ok_s ?_) (fun q2 => ?_))))
  · rw [if_neg (fun h => rWno q h.1)]
  · rw [if_neg (fun h => of_decide_eq_false (bI_eq0.mp q2) h.2)]
  obtain ⟨i, hi, rfl⟩ := rW_t (by omega) (not_t q)
  have hy := of_decide_eq_true (not_t q2)
  rw [if_pos ⟨not_t q, hy⟩]
  obtain ⟨m, hm, rfl⟩ := nI_of (nlt_le.mpr hy.1)
  have hm2 : m ≤ 8 := (nI_leI (b := 8) hm (by decide)).mp hy.2
  rw [cl_nI (by omega), cl_nI (by omega)]
  refine ok_b (M_first_s hT hb hc) (fun z hz => ok_i (fun g => ?_) (fun g => ok_s ?_))
  · rw [if_pos (AllB_t.mpr (hz.2.1 g).1)]
    exact M_walksL_s hT hb hc hi hm2
  · rw [if_neg (fun e => hz.2.2 g (AllB_t.mp e))]
end LAWOPS
