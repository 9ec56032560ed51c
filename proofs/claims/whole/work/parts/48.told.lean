/-! kinds and kind, as calls -/
def PC (adj : Nat → Nat → Bool) (n : Nat) (cn rd : Int32) (s : Nat → Int32) : Prop := rd = 0 ∨ (rd = 1 ∧ ∃ c, cn = nI c ∧ fnl adj n s c)
theorem LN_kinds_s {n : Nat} {c0 rd sz : Int32} {fi he ke ne oke nn pa s : Nat → Int32} {su : Nat → Int64} {adj : Nat → Nat → Bool} (hw : WF n adj) (hb : Lb nn adj) (hc : PC adj n c0 rd s) : Ok (LN_kinds (nI n) c0 rd sz nn fi he ke ne oke pa s su) (fun z => z.2.2.1 = 1 ∧ z.1 = z.2.1 ∧ ∃ c, z.2.1 = nI c ∧ fnl adj n z.2.2.2.2.2.2.2.2.2.2.1 c) := by
  unfold LN_kinds
  exact ok_b (Pr_tellApart_s hw hb hc) (fun z hz => ok_s ⟨hz.1, rfl, hz.2⟩)
theorem M_kinds_s {n : Nat} {ak km : Int32} {fp s nk road sg : Nat → Int32} {adj : Nat → Nat → Bool} (hw : WF n adj) (hb : Mb road adj) (hc : PC adj n km ak s) : Ok (M_kinds ak km (nI n) fp s nk road sg) (fun z => z.2.1 = 1 ∧ z.1 = z.2.2.1 ∧ ∃ c, z.2.2.1 = nI c ∧ fnl adj n z.2.2.2.2.1 c) := by
  unfold M_kinds
  exact ok_b (M_findKinds_s hw hb hc) (fun z hz => ok_s ⟨hz.1, rfl, hz.2⟩)
theorem LN_kind_s {n : Nat} {x y c0 rd sz : Int32} {fi he ke ne oke nn pa s : Nat → Int32} {su : Nat → Int64} {adj : Nat → Nat → Bool} (hw : WF n adj) (hb : Lb nn adj) (hc : PC adj n c0 rd s) : Ok (LN_kind x y (nI n) c0 rd sz nn fi he ke ne oke pa s su) (fun z => PC adj n z.2.1 z.2.2.1 z.2.2.2.2.2.2.2.2.2.2.1 ∧ ((¬ (inb x n = true ∧ inb y n = true) ∧ z.1 = -1) ∨ ((inb x n = true ∧ inb y n = true) ∧ ∃ K c, fnl adj n K c ∧ z.1 = K (32 * x.toNatClampNeg + y.toNatClampNeg)))) := by
  have hn := hw.1
  unfold LN_kind LN_kind_n22
  refine ok_e (Net_has_s (by omega)) ?_
  cases hx : inb x n
  · exact ok_t rfl (ok_s ⟨hc, Or.inl ⟨fun h => absurd h.1 (by decide), rfl⟩⟩)
  refine ok_f bI_n0 (ok_e (Net_has_s (by omega)) ?_)
  cases hy : inb y n
  · exact ok_t rfl (ok_s ⟨hc, Or.inl ⟨fun h => absurd h.2 (by decide), rfl⟩⟩)
  obtain ⟨p, hp, rfl⟩ := inb_of hx (by omega)
  obtain ⟨q, hq, rfl⟩ := inb_of hy (by omega)
  refine ok_f bI_n0 (ok_b (Pr_tellApart_s hw hb hc) (fun z hz => ?_))
  unfold Pr_of
  rw [i32', cl_nI (by omega)]
  obtain ⟨c, e, hf⟩ := hz.2
  refine ok_e (by rw [gd_t (inb_nI (by omega) (by omega))]) (ok_s ⟨Or.inr ⟨hz.1, c, e, hf⟩, Or.inr ⟨⟨rfl, rfl⟩, _, c, hf, ?_⟩⟩)
  rw [cl_nI (by omega), cl_nI (by omega)]
theorem M_kind_s {n : Nat} {x y ak km : Int32} {fp s nk road sg : Nat → Int32} {adj : Nat → Nat → Bool} (hw : WF n adj) (hb : Mb road adj) (hc : PC adj n km ak s) : Ok (M_kind x y ak km (nI n) fp s nk road sg) (fun z => PC adj n z.2.2.1 z.2.1 z.2.2.2.2.1 ∧ ((¬ (inb x n = true ∧ inb y n = true) ∧ z.1 = -1) ∨ ((inb x n = true ∧ inb y n = true) ∧ ∃ K c, fnl adj n K c ∧ z.1 = K (32 * x.toNatClampNeg + y.toNatClampNeg)))) := by
  have hn := hw.1
  unfold M_kind M_kind_n16
  refine ok_e (M_isPost_s (by omega)) ?_
  cases hx : inb x n
  · exact ok_t rfl (ok_s ⟨hc, Or.inl ⟨fun h => absurd h.1 (by decide), rfl⟩⟩)
  refine ok_f bI_n0 (ok_e (M_isPost_s (by omega)) ?_)
  cases hy : inb y n
  · exact ok_t rfl (ok_s ⟨hc, Or.inl ⟨fun h => absurd h.2 (by decide), rfl⟩⟩)
  obtain ⟨p, hp, rfl⟩ := inb_of hx (by omega)
  obtain ⟨q, hq, rfl⟩ := inb_of hy (by omega)
  refine ok_f bI_n0 (ok_b (M_findKinds_s hw hb hc) (fun z hz => ?_))
  obtain ⟨c, e, hf⟩ := hz.2
  rw [i32, cl_nI (by omega)]
  refine ok_g (inb_nI (by omega) (by omega)) (ok_s ⟨Or.inr ⟨hz.1, c, e, hf⟩, Or.inr ⟨⟨rfl, rfl⟩, _, c, hf, ?_⟩⟩)
  rw [cl_nI (by omega), cl_nI (by omega)]
/-! the told table -/
theorem r15 (x : Int32) : M_in x.toInt64 1 5 = some (bI (decide (1 ≤ x ∧ x ≤ 5))) := M_inI (lo := 1) (hi := 5)
theorem r01 (x : Int32) : M_in x.toInt64 0 1 = some (bI (decide (0 ≤ x ∧ x ≤ 1))) := M_inI (lo := 0) (hi := 1)
theorem r020 (x : Int32) : M_in x.toInt64 0 20 = some (bI (decide (0 ≤ x ∧ x ≤ 20))) := M_inI (lo := 0) (hi := 20)
theorem r160 (x : Int32) : M_in x.toInt64 1 60 = some (bI (decide (1 ≤ x ∧ x ≤ 60))) := M_inI (lo := 1) (hi := 60)
theorem r16 (x : Int32) : M_in x.toInt64 1 6 = some (bI (decide (1 ≤ x ∧ x ≤ 6))) := M_inI (lo := 1) (hi := 6)
def TB (arr : Nat → Int32) (f : Nat → Nat) : Prop := ∀ j, j < 6 → arr j = nI (f j)
def TT (d : Nat) (be ga : Nat → Nat) : Prop := (1 ≤ d ∧ d ≤ 5) ∧ (∀ i, i < 6 → be i ≤ 20 ∧ ga i ≤ 20) ∧ (∀ i, d ≤ i → i < 6 → be i = 0) ∧ ga 0 = 0 ∧ ∀ i, d < i → i < 6 → ga i = 0
def t0b (d i : Nat) : Nat := if i < d then 1 else 0
def t0c (d i : Nat) : Nat := if 1 ≤ i ∧ i ≤ d then 1 else 0
theorem TT_0 {d : Nat} (h : 1 ≤ d) (h2 : d ≤ 5) : TT d (t0b d) (t0c d) := by
  refine ⟨⟨h, h2⟩, fun i _ => ⟨?_, ?_⟩, fun i hi _ => if_neg (by omega), if_neg (by omega), fun i hi _ => if_neg (by omega)⟩
  · unfold t0b
    by_cases c : i < d
    · rw [if_pos c]; omega
    · rw [if_neg c]; omega
  · unfold t0c
    by_cases c : 1 ≤ i ∧ i ≤ d
    · rw [if_pos c]; omega
    · rw [if_neg c]; omega
theorem TT_b {d i v : Nat} {be ga : Nat → Nat} (h : TT d be ga) (hi : i < d) (hv : v ≤ 20) : TT d (uN be i v) ga := by
  refine ⟨h.1, fun j hj => ⟨?_, (h.2.1 j hj).2⟩, fun j h1 h2 => ?_, h.2.2.2⟩
  · unfold uN
    by_cases c : j = i
    · rw [if_pos c]; exact hv
    · rw [if_neg c]; exact (h.2.1 j hj).1
  · rw [uNn (by omega)]; exact h.2.2.1 j h1 h2
theorem TT_c {d i v : Nat} {be ga : Nat → Nat} (h : TT d be ga) (hi1 : 1 ≤ i) (hi : i ≤ d) (hv : v ≤ 20) : TT d be (uN ga i v) := by
  refine ⟨h.1, fun j hj => ⟨(h.2.1 j hj).1, ?_⟩, h.2.2.1, by rw [uNn (by omega)]; exact h.2.2.2.1, fun j h1 h2 => by rw [uNn (by omega)]; exact h.2.2.2.2 j h1 h2⟩
  unfold uN
  by_cases c : j = i
  · rw [if_pos c]; exact hv
  · rw [if_neg c]; exact (h.2.1 j hj).2
theorem TB_u {arr : Nat → Int32} {f : Nat → Nat} {i v : Nat} (h : TB arr f) : TB (upd arr i (nI v)) (uN f i v) := by
  intro j hj
  by_cases c : j = i
  · rw [c, updS, uNs]
  · rw [updN c, uNn c]; exact h j hj
theorem Td_lay_s {d : Nat} {jd ln : Int32} {b c : Nat → Int32} (h1 : 1 ≤ d) (h2 : d ≤ 5) : Ok (Td_lay (nI d) jd ln b c) (fun z => z.1 = 0 ∧ z.2.1 = nI d ∧ TB z.2.2.1 (t0b d) ∧ TB z.2.2.2 (t0c d)) := by
  unfold Td_lay
  refine ok_e (JA_fillI_s (by decide) _ _) (ok_e (JA_fillI_s (by decide) _ _) ?_)
  refine fr3 (fun F x b c => Td_lay_l23 F (nI d) x jd (nI d) b c) (fun i x b c => x = nI i ∧ (∀ j, j < 6 → b j = nI (if j < i then 1 else 0)) ∧ ∀ j, j < 6 → c j = nI (if 1 ≤ j ∧ j ≤ i then 1 else 0)) d (fuel_big (by omega)) ?_ ?_ 0 (Nat.zero_le _) 0 _ _ ⟨rfl, fun j hj => by rw [fa_fill_in hj, if_neg (by omega)]; rfl, fun j hj => by rw [fa_fill_in hj, if_neg (by omega)]; rfl⟩
  · rintro i hi x b c ⟨rfl, g1, g2⟩ F ih
    rw [Td_lay_l23_s]
    unfold Td_lay_n23
    rw [nI_1, cl_nI (by omega), cl_nI (by omega)]
    refine ok_f (nI_ge hi (by omega)) (ok_g (inb_nI (by omega) (by omega)) (ok_g (inb_nI (by omega) (by omega)) (ih _ _ _ ⟨rfl, fun j hj => ?_, fun j hj => ?_⟩)))
    · by_cases e : j = i
      · rw [e, updS, if_pos (by omega)]; rfl
      · rw [updN e, g1 j hj]
        by_cases c : j < i
        · rw [if_pos c, if_pos (by omega)]
        · rw [if_neg c, if_neg (by omega)]
    · by_cases e : j = i + 1
      · rw [e, updS, if_pos (by omega)]; rfl
      · rw [updN e, g2 j hj]
        by_cases c : 1 ≤ j ∧ j ≤ i
        · rw [if_pos c, if_pos (by omega)]
        · rw [if_neg c, if_neg (by omega)]
  · rintro x b c ⟨rfl, g1, g2⟩ F
    rw [Td_lay_l23_s]
    unfold Td_lay_n23 Td_lay_n50
    exact ok_t (nI_le (Nat.le_refl d) (by omega)) (ok_s ⟨rfl, rfl, g1, g2⟩)
theorem M_tellL {d : Nat} {tb tc : Nat → Int32} (h1 : 1 ≤ d) (h2 : d ≤ 5) : Ok (M_tell_l21 FUEL (nI d) 0 (nI d) tb tc) (fun z => z.1 = 1 ∧ z.2.1 = nI d ∧ TB z.2.2.1 (t0b d) ∧ TB z.2.2.2 (t0c d)) := by
  refine fr3 (fun F x b c => M_tell_l21 F (nI d) x (nI d) b c) (fun i x b c => x = nI i ∧ (∀ j, j < i → b j = nI (t0b d j)) ∧ ∀ j, j < i → c j = nI (t0c d j)) 6 (fuel_big (by omega)) ?_ ?_ 0 (Nat.zero_le _) 0 _ _ ⟨rfl, all_none, all_none⟩
  · rintro i hi x b c ⟨rfl, g1, g2⟩ F ih
    rw [M_tell_l21_s]
    unfold M_tell_n21 M_tell_n42 M_tell_n61 M_tell_n62
    rw [cl_nI (by omega)]
    have fin : ∀ v : Int32, v = nI (t0b d i) → Ok (gd (inb (nI i) 6) <| (if nI i ≤ 0 then gd (inb (nI i) 6) <| M_tell_l21 F (nI d) (nI i + 1) (nI d) (upd b i v) (upd c i 0) else (if nI d < nI i then gd (inb (nI i) 6) <| M_tell_l21 F (nI d) (nI i + 1) (nI d) (upd b i v) (upd c i 0) else gd (inb (nI i) 6) <| M_tell_l21 F (nI d) (nI i + 1) (nI d) (upd b i v) (upd c i 1)))) (fun z => z.1 = 1 ∧ z.2.1 = nI d ∧ TB z.2.2.1 (t0b d) ∧ TB z.2.2.2 (t0c d)) := by
      intro v hv
      have go : ∀ w : Int32, w = nI (t0c d i) → Ok (gd (inb (nI i) 6) <| M_tell_l21 F (nI d) (nI i + 1) (nI d) (upd b i v) (upd c i w)) (fun z => z.1 = 1 ∧ z.2.1 = nI d ∧ TB z.2.2.1 (t0b d) ∧ TB z.2.2.2 (t0c d)) := fun w hw => ok_g (inb_nI (by omega) (by omega)) (ih _ _ _ ⟨nI_1 i, all_next.mpr ⟨fun j hj => by rw [updN (by omega)]; exact g1 j hj, by rw [updS]; exact hv⟩, all_next.mpr ⟨fun j hj => by rw [updN (by omega)]; exact g2 j hj, by rw [updS]; exact hw⟩⟩)
      refine ok_g (inb_nI (by omega) (by omega)) (ok_i (fun c => go 0 ?_) (fun c => ok_i (fun c2 => go 0 ?_) (fun c2 => go 1 ?_)))
      · have c : i = 0 := Nat.le_zero.mp ((nI_leI (b := 0) (by omega) (by decide)).mp c)
        unfold t0c
        rw [if_neg (by omega)]; rfl
      · have c2 := (nI_ltI (by omega) (by omega)).mp c2
        unfold t0c
        rw [if_neg (by omega)]; rfl
      · have c : ¬ i = 0 := fun h => c (by rw [h]; decide)
        have c2 : ¬ d < i := fun h => c2 ((nI_ltI (by omega) (by omega)).mpr h)
        unfold t0c
        rw [if_pos (by omega)]; rfl
    refine ok_f (nI_ge hi (by decide)) (ok_i (fun c => fin 0 ?_) (fun c => fin 1 ?_))
    · have c := (nI_leI (by omega) (by omega)).mp c
      unfold t0b
      rw [if_neg (by omega)]; rfl
    · have c : ¬ d ≤ i := fun h => c ((nI_leI (by omega) (by omega)).mpr h)
      unfold t0b
      rw [if_pos (by omega)]; rfl
  · rintro x b c ⟨rfl, g1, g2⟩ F
    rw [M_tell_l21_s]
    unfold M_tell_n21 M_tell_n69
    exact ok_t (nI_le (Nat.le_refl 6) (by decide)) (ok_s ⟨rfl, rfl, g1, g2⟩)
theorem in15 {x : Int32} (h : ¬ x < 1) (h2 : x ≤ 5) : ∃ d, 1 ≤ d ∧ d ≤ 5 ∧ x = nI d := by
  obtain ⟨a, ha, ha1, rfl⟩ := lt1_nI h
  exact ⟨a, ha1, (nI_leI (b := 5) ha (by decide)).mp h2, rfl⟩
theorem tell_any (x : Int32) : ((∀ jd ln b c, LN_tell x jd ln b c = some (-1, jd, ln, b, c)) ∧ ∀ ln b c, M_tell x ln b c = some (-1, ln, b, c)) ∨ ∃ d, TT d (t0b d) (t0c d) ∧ (∀ jd ln b c, Ok (LN_tell x jd ln b c) (fun z => z.1 = 1 ∧ z.2.1 = 0 ∧ z.2.2.1 = nI d ∧ TB z.2.2.2.1 (t0b d) ∧ TB z.2.2.2.2 (t0c d))) ∧ ∀ ln b c, Ok (M_tell x ln b c) (fun z => z.1 = 1 ∧ z.2.1 = nI d ∧ TB z.2.2.1 (t0b d) ∧ TB z.2.2.2 (t0c d)) := by
  by_cases c1 : x < 1
  · refine Or.inl ⟨fun jd ln b c => ?_, fun ln b c => ?_⟩
    · unfold LN_tell LN_tell_n10
      rw [if_pos c1]
    · unfold M_tell
      rw [bnd_at (r15 _), if_pos (by rw [decide_eq_false (fun h => nlt_le.mpr h.1 c1)]; rfl)]
  by_cases c2 : x ≤ 5
  · obtain ⟨d, h1, h2, rfl⟩ := in15 c1 c2
    refine Or.inr ⟨d, TT_0 h1 h2, fun jd ln b c => ?_, fun ln b c => ?_⟩
    · unfold LN_tell
      exact ok_f c1 (ok_t c2 (ok_b (Td_lay_s h1 h2) (fun z hz => ok_s ⟨rfl, hz⟩)))
    · unfold M_tell
      exact ok_e (M_inI (lo := 1) (hi := 5)) (ok_f (by rw [decide_eq_true ⟨nlt_le.mp c1, c2⟩]; decide) (M_tellL h1 h2))
  · refine Or.inl ⟨fun jd ln b c => ?_, fun ln b c => ?_⟩
    · unfold LN_tell LN_tell_n10
      rw [if_neg c1, if_neg c2]
    · unfold M_tell
      rw [bnd_at (r15 _), if_pos (by rw [decide_eq_false (fun h => c2 h.2)]; rfl)]
/-! put -/
theorem put_any (x i v : Int32) {d : Nat} {be ga : Nat → Nat} (hT : TT d be ga) : ((∀ jd b c, LN_put x i v jd (nI d) b c = some (-1, jd, b, c)) ∧ ∀ b c, M_put x i v (nI d) b c = some (-1, b, c)) ∨ ∃ be2 ga2, TT d be2 ga2 ∧ (∀ jd b c, TB b be → TB c ga → Ok (LN_put x i v jd (nI d) b c) (fun z => z.1 = 1 ∧ z.2.1 = 0 ∧ TB z.2.2.1 be2 ∧ TB z.2.2.2 ga2)) ∧ ∀ b c, TB b be → TB c ga → Ok (M_put x i v (nI d) b c) (fun z => z.1 = 1 ∧ TB z.2.1 be2 ∧ TB z.2.2 ga2) := by
  have hd := hT.1
  have z : (0 : Int32).toInt = 0 := rfl
  have o : (1 : Int32).toInt = 1 := rfl
  by_cases hx : 0 ≤ x ∧ x ≤ 1
  rotate_left
  · refine Or.inl ⟨fun jd b c => ?_, fun b c => ?_⟩
    · unfold LN_put LN_put_n19
      by_cases c1 : x < 0
      · rw [if_pos c1]
      · rw [if_neg c1, if_pos (Classical.byContradiction (fun h => hx ⟨nlt_le.mp c1, nlt_le.mp h⟩))]
    · unfold M_put M_put_n41
      rw [bnd_at (r01 _), if_pos (by rw [decide_eq_false hx]; rfl)]
  have x0 : ¬ x < 0 := nlt_le.mpr hx.1
  have x1 : ¬ 1 < x := nlt_le.mpr hx.2
  by_cases hv : 0 ≤ v ∧ v ≤ 20
  rotate_left
  · refine Or.inl ⟨fun jd b c => ?_, fun b c => ?_⟩
    · unfold LN_put LN_put_n19
      rw [if_neg x0, if_neg x1]
      by_cases c1 : v < 0
      · rw [if_pos c1]
      · rw [if_neg c1, if_neg (fun h => hv ⟨nlt_le.mp c1, h⟩)]
    · unfold M_put M_put_n41
      rw [bnd_at (r01 _), if_neg (by rw [decide_eq_true hx]; decide), bnd_at (r020 _), if_pos (by rw [decide_eq_false hv]; rfl)]
  have v0 : ¬ v < 0 := nlt_le.mpr hv.1
  obtain ⟨w, hw1, rfl⟩ := nI_of v0
  have hw : w ≤ 20 := (nI_leI (b := 20) hw1 (by decide)).mp hv.2
  rcases in01.mp hx with rfl | rfl
  · by_cases hi : 0 ≤ i ∧ i ≤ nI d - 1 + 0
    · have hi2 : 0 ≤ i ∧ i < nI d := by
        refine ⟨hi.1, ?_⟩
        have := hi.2
        rw [show nI d - 1 = nI (d - 1) from pk_sub (b := 1) hd.1, show (0 : Int32) = nI 0 from rfl, nI_add, fa_le, nI_toInt (by omega)] at this
        rw [fa_lt, nI_toInt (by omega)]
        omega
      obtain ⟨k, hk1, rfl⟩ := nI_of (nlt_le.mpr hi2.1)
      have hk : k < d := (nI_ltI hk1 (by omega)).mp hi2.2
      refine Or.inr ⟨uN be k w, ga, TT_b hT hk hw, fun jd b c hb hc => ?_, fun b c hb hc => ?_⟩
      · unfold LN_put LN_put_n53 Td_putOnward
        rw [cl_nI hk1]
        exact ok_f x0 (ok_f x1 (ok_f v0 (ok_t hv.2 (ok_t rfl (ok_f (nlt_le.mpr hi2.1) (ok_t hi2.2 (ok_e (by rw [gd_t (inb_nI (by omega) (by omega))]) (ok_s ⟨rfl, rfl, TB_u hb, hc⟩))))))))
      · unfold M_put M_put_n64
        rw [cl_nI hk1]
        exact ok_e (M_inI (lo := 0) (hi := 1)) (ok_f (by decide) (ok_e (M_inI (lo := 0) (hi := 20)) (ok_f (by rw [decide_eq_true hv]; decide) (ok_e (M_inI (lo := 0)) (ok_f (by rw [decide_eq_true hi]; decide) (ok_t rfl (ok_g (inb_nI (by omega) (by omega)) (ok_s ⟨rfl, TB_u hb, hc⟩))))))))
    · refine Or.inl ⟨fun jd b c => ?_, fun b c => ?_⟩
      · unfold LN_put LN_put_n40 LN_put_n53
        rw [if_neg x0, if_neg x1, if_neg v0, if_pos hv.2, if_pos rfl]
        by_cases c1 : i < 0
        · rw [if_pos c1]
        · rw [if_neg c1, if_neg (fun h => hi ⟨nlt_le.mp c1, ?_⟩)]
          rw [show nI d - 1 = nI (d - 1) from pk_sub (b := 1) hd.1, show (0 : Int32) = nI 0 from rfl, nI_add, fa_le, nI_toInt (by omega)]
          rw [fa_lt, nI_toInt (by omega)] at h
          omega
      · unfold M_put M_put_n41
        rw [bnd_at (r01 _), if_neg (by decide), bnd_at (r020 _), if_neg (by rw [decide_eq_true hv]; decide), bnd_at (M_inI (lo := 0)), if_pos (by rw [decide_eq_false hi]; rfl)]
  · by_cases hi : 1 ≤ i ∧ i ≤ nI d - 1 + 1
    · have hi2 : 1 ≤ i ∧ i ≤ nI d := by
        refine ⟨hi.1, ?_⟩
        have := hi.2
        rw [show nI d - 1 = nI (d - 1) from pk_sub (b := 1) hd.1, nI_1, show d - 1 + 1 = d by omega] at this
        exact this
      obtain ⟨k, hk1, hk2, rfl⟩ := lt1_nI (nlt_le.mpr hi2.1)
      have hk : k ≤ d := (nI_leI hk1 (by omega)).mp hi2.2
      refine Or.inr ⟨be, uN ga k w, TT_c hT hk2 hk hw, fun jd b c hb hc => ?_, fun b c hb hc => ?_⟩
      · unfold LN_put LN_put_n83 Td_putBackward
        rw [cl_nI hk1]
        exact ok_f x0 (ok_f x1 (ok_f v0 (ok_t hv.2 (ok_f (by decide) (ok_f (nlt_le.mpr hi2.1) (ok_t hi2.2 (ok_e (by rw [gd_t (inb_nI (by omega) (by omega))]) (ok_s ⟨rfl, rfl, hb, TB_u hc⟩))))))))
      · unfold M_put M_put_n64
        rw [cl_nI hk1]
        exact ok_e (M_inI (lo := 0) (hi := 1)) (ok_f (by decide) (ok_e (M_inI (lo := 0) (hi := 20)) (ok_f (by rw [decide_eq_true hv]; decide) (ok_e (M_inI (lo := 1)) (ok_f (by rw [decide_eq_true hi]; decide) (ok_f (by decide) (ok_g (inb_nI (by omega) (by omega)) (ok_s ⟨rfl, hb, TB_u hc⟩))))))))
    · refine Or.inl ⟨fun jd b c => ?_, fun b c => ?_⟩
      · unfold LN_put LN_put_n70 LN_put_n83
        rw [if_neg x0, if_neg x1, if_neg v0, if_pos hv.2, if_neg (by decide)]
        by_cases c1 : i < 1
        · rw [if_pos c1]
        · rw [if_neg c1, if_neg (fun h => hi ⟨nlt_le.mp c1, ?_⟩)]
          rw [show nI d - 1 = nI (d - 1) from pk_sub (b := 1) hd.1, nI_1, show d - 1 + 1 = d by omega]
          exact h
      · unfold M_put M_put_n41
        rw [bnd_at (r01 _), if_neg (by decide), bnd_at (r020 _), if_neg (by rw [decide_eq_true hv]; decide), bnd_at (M_inI (lo := 1)), if_pos (by rw [decide_eq_false hi]; rfl)]
/-! bound -/
theorem bound_any (x y : Int32) : ∃ r, LN_bound x y = some r ∧ M_bound x y = some r := by
  have same : ∀ (F : Nat) (x1 x2 : Int32) (x3 x5 : Int64) (x7 : Int32), LN_bound_l35 F x1 x2 x3 x5 x7 = M_bound_l37 F x1 x2 x3 x5 x7 := by
    intro F
    induction F with
    | zero => intros; rfl
    | succ F ih =>
      intro x1 x2 x3 x5 x7
      rw [LN_bound_l35_s, M_bound_l37_s]
      unfold LN_bound_n35 M_bound_n37 LN_bound_n61 M_bound_n63
      by_cases c : x2 < x7
      · rw [if_pos c, if_pos c]
      · rw [if_neg c, if_neg c]
        show LN_bound_l35 F _ _ _ _ _ = M_bound_l37 F _ _ _ _ _
        exact ih _ _ _ _ _
  unfold LN_bound M_bound LN_bound_n22 M_bound_n24
  rw [bnd_at (r160 _)]
  by_cases c1 : x < 1
  · rw [if_pos c1, if_pos (by rw [decide_eq_false (fun h => nlt_le.mpr h.1 c1)]; rfl)]
    exact ⟨_, rfl, rfl⟩
  rw [if_neg c1]
  by_cases c2 : 60 < x
  · rw [if_pos c2, if_pos (by rw [decide_eq_false (fun h => nlt_le.mpr h.2 c2)]; rfl)]
    exact ⟨_, rfl, rfl⟩
  rw [if_neg c2, if_neg (show ¬ bI (decide (1 ≤ x ∧ x ≤ 60)) = 0 by rw [decide_eq_true ⟨nlt_le.mp c1, nlt_le.mp c2⟩]; decide), bnd_at (r16 _)]
  by_cases c3 : y < 1
  · rw [if_pos c3, if_pos (show bI (decide (1 ≤ y ∧ y ≤ 6)) = 0 by rw [decide_eq_false (fun h => nlt_le.mpr h.1 c3)]; rfl)]
    exact ⟨_, rfl, rfl⟩
  rw [if_neg c3]
  by_cases c4 : y ≤ 6
  · rw [if_pos c4, if_neg (show ¬ bI (decide (1 ≤ y ∧ y ≤ 6)) = 0 by rw [decide_eq_true ⟨nlt_le.mp c3, c4⟩]; decide), ← same]
    obtain ⟨d, hd1, hd2, rfl⟩ : ∃ d, 1 ≤ d ∧ d ≤ 6 ∧ y = nI d := by
      obtain ⟨a, ha, ha1, rfl⟩ := lt1_nI c3
      exact ⟨a, ha1, (nI_leI (b := 6) ha (by decide)).mp c4, rfl⟩
    obtain ⟨r, e, _⟩ := fr3 (P := fun _ => True) (fun F s l k => LN_bound_l35 F x (nI d) s l k) (fun i _ _ k => k = nI i) (d + 1) (fuel_big (by omega)) (by
      rintro i hi s l k rfl F ih
      show Ok (LN_bound_l35 (F + 1) x (nI d) s l (nI i)) _
      rw [LN_bound_l35_s]
      unfold LN_bound_n35 LN_bound_n61
      exact ok_i (fun _ => ok_s trivial) (fun _ => ok_l (ih _ _ _ (nI_1 i)))) (by
      rintro s l k rfl F
      show Ok (LN_bound_l35 (F + 1) x (nI d) s l (nI (d + 1))) _
      rw [LN_bound_l35_s]
      unfold LN_bound_n35 LN_bound_n61
      exact ok_t (nI_lt (by omega) (by omega)) (ok_s trivial)) 1 (by omega) 1 x.toInt64 1 rfl
    exact ⟨r, e, e⟩
  · rw [if_neg c4, if_pos (show bI (decide (1 ≤ y ∧ y ≤ 6)) = 0 by rw [decide_eq_false (fun h => c4 h.2)]; rfl)]
    exact ⟨_, rfl, rfl⟩
