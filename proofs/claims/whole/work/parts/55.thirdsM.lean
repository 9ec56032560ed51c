
/-! the model's thirds -/
section THIRDS3
variable {d : Nat} {be ga : Nat → Nat} {b c : Nat → Int32}
theorem M_thirdAt_s {t : Nat → Int64} {i j l : Nat} (hd : d ≤ 5) (hi : i < d + 1) (hj : j < d + 1) (hl : l < d + 1) (h : TA d be ga t j) : M_thirdAt (nI i) (nI j) (nI l) (nI d) t = some (lZ (tZ d be ga j i l)) := by
  have q0 := dx_lt (i := i) (j := j) (l := l) (by omega) (by omega) (by omega)
  refine ok_eq ?_
  unfold M_thirdAt M_thirdAt_n32
  rw [M_dx, cl_nI (by omega), h i hi l hl]
  exact ok_f (nI_nlt (a := l) (b := 0) (by omega) (by omega)) (ok_t (nI_le (by omega) (by omega)) (ok_g (inb_nI (by omega) (by omega)) (ok_s rfl)))
theorem M_findThirds_s {t : Nat → Int64} (hT : TT d be ga) (hb : TB b be) (hc : TB c ga) (h1 : L1 d be ga) (h2 : L2 d be ga) (h4 : L4 d be ga) : Ok (M_findThirds (nI d) b c t) (TW d be ga) := by
  have hd := hT.1
  have second : ∀ t : Nat → Int64, TA d be ga t 0 → TA d be ga t 1 → Ok (M_findThirds_l118 (nI d) b c FUEL 1 t) (TW d be ga) := by
    intro t t0 t1
    refine fr2 (fun F x t => M_findThirds_l118 (nI d) b c F x t) (fun j x t => x = nI j ∧ 1 ≤ j ∧ TLy d be ga t j 0 0 ∧ TP d be ga j) d (fuel_big (by omega)) ?_ ?_ 1 hd.1 1 t ⟨rfl, Nat.le_refl 1, TLy_1 t0 t1, TP_1 hT h1 h2⟩
    · rintro j hj x t ⟨rfl, hj1, g1, g2⟩ F ih
      have pg := hT.2.1 (j + 1) (by omega)
      have pg1 := (h1.2 j hj).2
      rw [M_findThirds_l118_s]
      unfold M_findThirds_n118
      refine ok_f (nI_ge hj (by omega)) ?_
      refine fr2 (fun F x t => M_findThirds_l128 _ (nI d) b c F (nI j) x t) (fun i x t => x = nI i ∧ TLy d be ga t j i 0) (d + 1) (fuel_big (by omega)) ?_ ?_ 0 (Nat.zero_le _) 0 t ⟨rfl, g1⟩
      · rintro i hi x t ⟨rfl, e1⟩ F2 ih2
        rw [M_findThirds_l128_s]
        unfold M_findThirds_n128
        refine ok_f (nI_nlt (a := d) (b := i) (by omega) (by omega)) ?_
        refine fr2 (fun F x t => M_findThirds_l138 _ (nI d) b c F (nI j) (nI i) x t) (fun l x t => x = nI l ∧ TLy d be ga t j i l) (d + 1) (fuel_big (by omega)) ?_ ?_ 0 (Nat.zero_le _) 0 t ⟨rfl, e1⟩
        · rintro l hl x t ⟨rfl, f1⟩ F3 ih3
          have rg := pZ_range hT h2 h4 hj1 hj hi hl (g2.1 j (Nat.le_refl j)) (g2.1 (j - 1) (by omega))
          have q0 := dx_lt (i := i) (j := j + 1) (l := l) (by omega) (by omega) (by omega)
          have tj := f1.1 j (Nat.le_refl j)
          rw [M_findThirds_l138_s]
          have last : ∀ u v : Int, u + v - (be (j - 1) : Int) * tZ d be ga (j - 1) i l = pZ d be ga j i l → Ok (M_findThirds_n233 (fun x1 x2 x3 third => M_findThirds_l138 (fun x1 x2 third => M_findThirds_l128 (fun x1 third => M_findThirds_l118 (nI d) b c F x1 third) (nI d) b c F2 x1 x2 third) (nI d) b c F3 x1 x2 x3 third) (nI d) b c (nI j) (nI i) (nI l) (lZ u) (lZ v) t) (TW d be ga) := by
            intro u v huv
            obtain ⟨k, rfl⟩ : ∃ k, j = k + 1 := ⟨j - 1, by omega⟩
            have pk := hT.2.1 k (by omega)
            unfold M_findThirds_n233 M_findThirds_n284
            rw [nI_pred, nI_1, M_dx, cl_nI (by omega), cl_nI (by omega), cl_nI (by omega), hb k (by omega), hc (k + 1 + 1) (by omega), n_lZ (by omega), n_lZ (by omega)]
            refine ok_g (inb_nI (by omega) (by omega)) (ok_e (M_thirdAt_s (by omega) hi (by omega) hl (f1.1 k (by omega))) ?_)
            rw [lZ_add, lZ_mul, lZ_sub]
            rw [Nat.add_sub_cancel] at huv
            rw [huv]
            refine ok_l (ok_i (fun q => ok_s (TW_0 hj1 hj hi hl (fun h => ?_))) (fun q => ?_))
            · have := (lZ_neg (by omega) (by omega)).mp q
              have := h.1
              omega
            have q : 0 ≤ pZ d be ga (k + 1) i l := by
              rcases Int.lt_or_le (pZ d be ga (k + 1) i l) 0 with h | h
              · exact absurd ((lZ_neg (by omega) (by omega)).mpr h) q
              · exact h
            refine ok_g (inb_nI (by omega) (by omega)) (ok_g (decide_eq_true (fun h => ?_)) (ok_i (fun q2 => ok_l (ok_g (inb_nI (by omega) (by omega)) (ih3 _ _ ⟨nI_1 l, ?_⟩))) (fun q2 => ok_s (TW_0 hj1 hj hi hl (fun h => ?_)))))
            · rw [← lN_lZ, lN0 (by omega)] at h; omega
            · rw [lZ_div q (by omega) (by omega) (by omega), ← tZ_2 d be ga (k + 1) i l hj1]
              exact TLy_upd (by omega) hj hi hl f1 ⟨q, (lZ_rem q (by omega) (by omega) (by omega)).mp q2⟩
            · exact absurd ((lZ_rem q (by omega) (by omega) (by omega)).mpr h.2) q2
          have mid : ∀ u : Int, u = (if l = 0 then 0 else (be (l - 1) : Int) * tZ d be ga j i (l - 1)) → Ok (M_findThirds_n173 (fun x1 x2 x3 third => M_findThirds_l138 (fun x1 x2 third => M_findThirds_l128 (fun x1 third => M_findThirds_l118 (nI d) b c F x1 third) (nI d) b c F2 x1 x2 third) (nI d) b c F3 x1 x2 x3 third) (nI d) b c (nI j) (nI i) (nI l) (lZ u) t) (TW d be ga) := by
            intro u hu
            unfold M_findThirds_n173
            refine ok_e (M_a_s (by omega) hb hc) (ok_e (M_a_s (by omega) hb hc) (ok_e (M_thirdAt_s (by omega) hi (by omega) hl tj) ?_))
            rw [aa_lZ hT (by omega) (by omega), lZ_mul, lZ_add]
            refine ok_l (ok_i (fun q => last _ 0 ?_) (fun q => ?_))
            · have q := (nI_leI (by omega) (by omega)).mp q
              unfold pZ pS
              rw [hu, if_neg (show ¬ l < d by omega)]
            · have q : ¬ d ≤ l := fun h => q ((nI_leI (by omega) (by omega)).mpr h)
              have pl := hT.2.1 (l + 1) (by omega)
              rw [nI_1]
              refine ok_g (inb_nI (by omega) (by omega)) (ok_e (M_thirdAt_s (by omega) hi (by omega) (by omega) tj) ?_)
              rw [cl_nI (by omega), hc (l + 1) (by omega), n_lZ (by omega), lZ_mul]
              refine last _ _ ?_
              unfold pZ pS
              rw [hu, if_pos (show l < d by omega)]
          unfold M_findThirds_n138
          refine ok_f (nI_nlt (a := d) (b := l) (by omega) (by omega)) (ok_i (fun q => mid 0 ?_) (fun q => ?_))
          · have q := (nI_leI (b := 0) (by omega) (by decide)).mp q
            rw [if_pos (by omega)]
          · have q : ¬ l = 0 := fun h => q (by rw [h]; decide)
            obtain ⟨m, rfl⟩ : ∃ m, l = m + 1 := ⟨l - 1, by omega⟩
            have pl := hT.2.1 m (by omega)
            rw [nI_pred]
            refine ok_g (inb_nI (by omega) (by omega)) (ok_e (M_thirdAt_s (by omega) hi (by omega) (by omega) tj) ?_)
            rw [cl_nI (by omega), hb m (by omega), n_lZ (by omega), lZ_mul]
            exact mid _ (by rw [if_neg q, Nat.add_sub_cancel])
        · rintro x t ⟨rfl, f1⟩ F3
          rw [M_findThirds_l138_s]
          unfold M_findThirds_n138 M_findThirds_n322
          exact ok_t (nI_lt (by omega) (by omega)) (ih2 _ _ ⟨nI_1 i, TLy_row f1⟩)
      · rintro x t ⟨rfl, e1⟩ F2
        rw [M_findThirds_l128_s]
        unfold M_findThirds_n128 M_findThirds_n328
        exact ok_t (nI_lt (by omega) (by omega)) (ih _ _ ⟨nI_1 j, by omega, TLy_next hT h1 h4 hj1 hj g2 e1⟩)
    · rintro x t ⟨rfl, hj1, g1, g2⟩ F
      rw [M_findThirds_l118_s]
      unfold M_findThirds_n118 M_findThirds_n334
      exact ok_t (nI_le (Nat.le_refl d) (by omega)) (ok_s (TW_1 g1 g2))
  unfold M_findThirds
  refine fr2 (fun F x t => M_findThirds_l2 (nI d) b c F x t) (fun i x t => x = nI i ∧ ∀ i', i' < i → ∀ l', l' < d + 1 → TF d be ga t i' l') (d + 1) (fuel_big (by omega)) ?_ ?_ 0 (Nat.zero_le _) 0 t ⟨rfl, all_none⟩
  · rintro i hi x t ⟨rfl, h1⟩ F ih
    have li := hT.2.1 i (by omega)
    rw [M_findThirds_l2_s]
    unfold M_findThirds_n2
    refine ok_f (nI_nlt (a := d) (b := i) (by omega) (by omega)) ?_
    refine fr2 (fun F x t => M_findThirds_l12 _ (nI d) b c F (nI i) x t) (fun l x t => x = nI l ∧ (∀ i', i' < i → ∀ l', l' < d + 1 → TF d be ga t i' l') ∧ ∀ l', l' < l → TF d be ga t i l') (d + 1) (fuel_big (by omega)) ?_ ?_ 0 (Nat.zero_le _) 0 t ⟨rfl, h1, all_none⟩
    · rintro l hl x t ⟨rfl, g1⟩ F2 ih2
      have q0 := dx_lt (i := i) (j := 0) (l := l) (by omega) (by omega) (by omega)
      have q1 := dx_lt (i := i) (j := 1) (l := l) (by omega) (by omega) (by omega)
      rw [M_findThirds_l12_s]
      have e0 : 36 * nI i + nI l = nI (dx i 0 l) := by
        rw [← M_dx (j := 0), show (6 : Int32) * nI 0 = 0 from rfl, Int32.add_zero]
      have e1 : 36 * nI i + 6 + nI l = nI (dx i 1 l) := by
        rw [← M_dx (j := 1), show (6 : Int32) * nI 1 = 6 from rfl]
      unfold M_findThirds_n12 M_findThirds_n40
      rw [e0, e1, cl_nI (by omega), cl_nI (by omega), hb i (by omega), hc i (by omega), nI_1]
      have fin : ∀ v w : Int64, v = lZ (tZ d be ga 0 i l) → w = lZ (tZ d be ga 1 i l) → Ok (M_findThirds_n103 (fun x1 x2 third => M_findThirds_l12 (fun x1 third => M_findThirds_l2 (nI d) b c F x1 third) (nI d) b c F2 x1 x2 third) (nI i) (nI l) (nI (dx i 1 l)) w (vp_updL t (dx i 0 l) v)) (TW d be ga) := by
        rintro v w rfl rfl
        unfold M_findThirds_n103
        rw [cl_nI (by omega)]
        exact ok_g (inb_nI (by omega) (by omega)) (ih2 _ _ ⟨nI_1 l, TF_upd (by omega) (by omega) g1 (by omega)⟩)
      have go : ∀ v : Int64, v = lZ (tZ d be ga 0 i l) → Ok (gd (inb (nI (dx i 0 l)) 216) <| (if nI l = (nI i - 1) then gd (inb (nI i) 6) <| (M_findThirds_n103 (fun x1 x2 third => M_findThirds_l12 (fun x1 third => M_findThirds_l2 (nI d) b c F x1 third) (nI d) b c F2 x1 x2 third) (nI i) (nI l) (nI (dx i 1 l)) ((nI (ga i)).toInt64) (vp_updL t (dx i 0 l) v)) else (if nI l = nI i then bnd (M_a (nI i) b c) fun z1 => (M_findThirds_n103 (fun x1 x2 third => M_findThirds_l12 (fun x1 third => M_findThirds_l2 (nI d) b c F x1 third) (nI d) b c F2 x1 x2 third) (nI i) (nI l) (nI (dx i 1 l)) (z1.toInt64) (vp_updL t (dx i 0 l) v)) else (if nI l = nI (i + 1) then gd (inb (nI i) 6) <| (M_findThirds_n103 (fun x1 x2 third => M_findThirds_l12 (fun x1 third => M_findThirds_l2 (nI d) b c F x1 third) (nI d) b c F2 x1 x2 third) (nI i) (nI l) (nI (dx i 1 l)) ((nI (be i)).toInt64) (vp_updL t (dx i 0 l) v)) else (M_findThirds_n103 (fun x1 x2 third => M_findThirds_l12 (fun x1 third => M_findThirds_l2 (nI d) b c F x1 third) (nI d) b c F2 x1 x2 third) (nI i) (nI l) (nI (dx i 1 l)) 0 (vp_updL t (dx i 0 l) v)))))) (TW d be ga) := by
        intro v hv
        have tz : tZ d be ga 1 i l = (if l + 1 = i then (ga i : Int) else if l = i then ia be ga i else if l = i + 1 then (be i : Int) else 0) := rfl
        refine ok_g (inb_nI (by omega) (by omega)) (ok_i (fun q => ok_g (inb_nI (by omega) (by omega)) (fin _ _ hv ?_)) (fun q => ok_i (fun q2 => ok_e (M_a_s (by omega) hb hc) (fin _ _ hv ?_)) (fun q2 => ok_i (fun q3 => ok_g (inb_nI (by omega) (by omega)) (fin _ _ hv ?_)) (fun q3 => fin _ _ hv ?_))))
        · rw [tz, if_pos ((pred_eq (by omega) (by omega)).mp q), n_lZ (by omega)]
        · rw [tz, if_neg (fun h => q ((pred_eq (by omega) (by omega)).mpr h)), if_pos ((nI_eq (by omega) (by omega)).mp q2), a_lZ hT (by omega)]
        · rw [tz, if_neg (fun h => q ((pred_eq (by omega) (by omega)).mpr h)), if_neg (fun h => q2 (congrArg nI h)), if_pos ((nI_eq (by omega) (by omega)).mp q3), n_lZ (by omega)]
        · rw [tz, if_neg (fun h => q ((pred_eq (by omega) (by omega)).mpr h)), if_neg (fun h => q2 (congrArg nI h)), if_neg (fun h => q3 (congrArg nI h))]
          rfl
      exact ok_f (nI_nlt (a := d) (b := l) (by omega) (by omega)) (ok_i (fun q => go 1 (t0_1 ((nI_eq (by omega) (by omega)).mp q).symm)) (fun q => go 0 (t0_0 (fun h => q (congrArg nI h.symm)))))
    · rintro x t ⟨rfl, g1, g2⟩ F2
      rw [M_findThirds_l12_s]
      unfold M_findThirds_n12 M_findThirds_n110
      exact ok_t (nI_lt (by omega) (by omega)) (ih _ _ ⟨nI_1 i, all_next.mpr ⟨g1, g2⟩⟩)
  · rintro x t ⟨rfl, h1⟩ F
    rw [M_findThirds_l2_s]
    unfold M_findThirds_n2 M_findThirds_n116
    exact ok_t (nI_lt (by omega) (by omega)) (second t (fun i hi l hl => (h1 i hi l hl).1) (fun i hi l hl => (h1 i hi l hl).2))
end THIRDS3
