
/-! the model's walks -/
theorem M_walksL_s {d : Nat} {be ga : Nat → Nat} {b c : Nat → Int32} {i m : Nat} {all : Int64} {next sizes walk : Nat → Int64} (hT : TT d be ga) (hb : TB b be) (hc : TB c ga) (hi : i < d + 1) (hm : m ≤ 8) : Ok (M_walks_l43 (nI d) b c FUEL (nI i) (nI m) 0 all next sizes walk) (fun z => z.1 = wK be ga d m i) := by
  have hd := hT.1
  have main : ∀ w : Nat → Int64, (∀ j, j < d + 1 → w j = wK be ga d 0 j) → Ok (M_walks_l74 (nI d) b c FUEL (nI i) (nI m) 0 all next sizes w) (fun z => z.1 = wK be ga d m i) := by
    intro w hw
    refine fr3 (fun F x n w => M_walks_l74 (nI d) b c F (nI i) (nI m) x all n sizes w) (fun s x n w => x = nI s ∧ ∀ j, j < d + 1 → w j = wK be ga d s j) m (fuel_big (by omega)) ?_ ?_ 0 (Nat.zero_le _) 0 next w ⟨rfl, hw⟩
    · rintro s hs x n w ⟨rfl, h1⟩ F ih
      rw [M_walks_l74_s]
      unfold M_walks_n74
      refine ok_f (nI_ge hs (by omega)) ?_
      refine fr2 (fun F x n => M_walks_l82 _ (nI d) b c F (nI i) (nI m) (nI s) x all n sizes w) (fun k x n => x = nI k ∧ ∀ j, j < k → n j = wK be ga d (s + 1) j) (d + 1) (fuel_big (by omega)) ?_ ?_ 0 (Nat.zero_le _) 0 n ⟨rfl, all_none⟩
      · rintro k hk x n ⟨rfl, g1⟩ F2 ih2
        rw [M_walks_l82_s]
        have fin : ∀ v2 v3 : Int64, (lI be ga k).toInt64 * wK be ga d s k + v2 + v3 = wK be ga d (s + 1) k → Ok (M_walks_n173 (fun x1 x2 x3 x4 all next sizes walk => M_walks_l82 (fun x1 x2 x3 all next sizes walk => M_walks_l74 (nI d) b c F x1 x2 x3 all next sizes walk) (nI d) b c F2 x1 x2 x3 x4 all next sizes walk) (nI i) (nI m) (nI s) (nI k) ((lI be ga k).toInt64 * wK be ga d s k + v2) v3 all n sizes w) (fun z => z.1 = wK be ga d m i) := by
          intro v2 v3 hv
          unfold M_walks_n173
          rw [cl_nI (by omega)]
          exact ok_g (inb_nI (by omega) (by omega)) (ih2 _ _ ⟨nI_1 k, all_next.mpr ⟨fun j hj => by rw [pk_uLn (by omega)]; exact g1 j hj, by rw [pk_uLs, hv]⟩⟩)
        have mid : ∀ v2 : Int64, v2 = (nI (ga k)).toInt64 * (if k = 0 then 0 else wK be ga d s (k - 1)) → Ok (M_walks_n137 (fun x1 x2 x3 x4 all next sizes walk => M_walks_l82 (fun x1 x2 x3 all next sizes walk => M_walks_l74 (nI d) b c F x1 x2 x3 all next sizes walk) (nI d) b c F2 x1 x2 x3 x4 all next sizes walk) (nI d) b (nI i) (nI m) (nI s) (nI k) ((lI be ga k).toInt64 * wK be ga d s k) v2 all n sizes w) (fun z => z.1 = wK be ga d m i) := by
          intro v2 hv2
          have e : wK be ga d (s + 1) k = ((lI be ga k).toInt64 * wK be ga d s k + v2) + (nI (be k)).toInt64 * (if k < d then wK be ga d s (k + 1) else 0) := by
            rw [hv2, Int64.add_comm ((lI be ga k).toInt64 * wK be ga d s k)]
            rfl
          unfold M_walks_n137
          refine ok_i (fun q => ?_) (fun q => ?_)
          · have q := (nI_leI (by omega) (by omega)).mp q
            refine fin v2 0 ?_
            rw [e, if_neg (by omega), Int64.mul_zero]
          · have q : ¬ d ≤ k := fun h => q ((nI_leI (by omega) (by omega)).mpr h)
            rw [nI_1, cl_nI (by omega), cl_nI (by omega), hb k (by omega), h1 (k + 1) (by omega)]
            refine ok_g (inb_nI (by omega) (by omega)) (ok_g (inb_nI (by omega) (by omega)) (fin v2 _ ?_))
            rw [e, if_pos (by omega)]
        unfold M_walks_n82
        refine ok_f (nI_nlt (a := d) (b := k) (by omega) (by omega)) (ok_e (M_a_s (by omega) hb hc) ?_)
        rw [cl_nI (by omega), h1 k hk, hc k (by omega)]
        refine ok_g (inb_nI (by omega) (by omega)) (ok_i (fun q => mid 0 ?_) (fun q => ?_))
        · have q := (nI_leI (b := 0) (by omega) (by decide)).mp q
          rw [if_pos (by omega), Int64.mul_zero]
        · have q : ¬ k = 0 := fun h => q (by rw [h]; decide)
          obtain ⟨k', rfl⟩ : ∃ k', k = k' + 1 := ⟨k - 1, by omega⟩
          rw [show nI (k' + 1) - 1 = nI k' by rw [← nI_1, Int32.add_sub_cancel], cl_nI (by omega), h1 k' (by omega)]
          refine ok_g (inb_nI (by omega) (by omega)) (mid _ ?_)
          rw [if_neg q, Nat.add_sub_cancel]
      · rintro x n ⟨rfl, g1⟩ F2
        rw [M_walks_l82_s]
        unfold M_walks_n82 M_walks_n191
        refine ok_t (nI_lt (by omega) (by omega)) ?_
        refine fr2 (fun F x w => M_walks_l194 _ (nI d) F (nI i) (nI m) (nI s) x all n sizes w) (fun k x w => x = nI k ∧ ∀ j, j < k → w j = wK be ga d (s + 1) j) (d + 1) (fuel_big (by omega)) ?_ ?_ 0 (Nat.zero_le _) 0 w ⟨rfl, all_none⟩
        · rintro k hk x w ⟨rfl, g2⟩ F3 ih3
          rw [M_walks_l194_s]
          unfold M_walks_n194
          rw [cl_nI (by omega)]
          exact ok_f (nI_nlt (a := d) (b := k) (by omega) (by omega)) (ok_g (inb_nI (by omega) (by omega)) (ih3 _ _ ⟨nI_1 k, all_next.mpr ⟨fun j hj => by rw [pk_uLn (by omega)]; exact g2 j hj, by rw [pk_uLs]; exact g1 k hk⟩⟩))
        · rintro x w ⟨rfl, g2⟩ F3
          rw [M_walks_l194_s]
          unfold M_walks_n194 M_walks_n223
          exact ok_t (nI_lt (by omega) (by omega)) (ih _ _ _ ⟨nI_1 s, g2⟩)
    · rintro x n w ⟨rfl, h1⟩ F
      rw [M_walks_l74_s]
      unfold M_walks_n74 M_walks_n229
      refine ok_t (nI_le (Nat.le_refl m) (by omega)) (ok_g (inb_nI (by omega) (by omega)) (ok_s ?_))
      show w (nI i).toNatClampNeg = _
      rw [cl_nI (by omega)]
      exact h1 i hi
  refine fr2 (fun F x w => M_walks_l43 (nI d) b c F (nI i) (nI m) x all next sizes w) (fun s x w => x = nI s ∧ ∀ j, j < s → w j = wK be ga d 0 j) (d + 1) (fuel_big (by omega)) ?_ ?_ 0 (Nat.zero_le _) 0 walk ⟨rfl, all_none⟩
  · rintro s hs x w ⟨rfl, h1⟩ F ih
    rw [M_walks_l43_s]
    unfold M_walks_n43 M_walks_n65
    rw [cl_nI (by omega)]
    have st : ∀ v : Int64, v = wK be ga d 0 s → Ok (gd (inb (nI s) 6) <| M_walks_l43 (nI d) b c F (nI i) (nI m) (nI s + 1) all next sizes (vp_updL w s v)) (fun z => z.1 = wK be ga d m i) := fun v hv => ok_g (inb_nI (by omega) (by omega)) (ih _ _ ⟨nI_1 s, all_next.mpr ⟨fun j hj => by rw [pk_uLn (by omega)]; exact h1 j hj, by rw [pk_uLs, hv]⟩⟩)
    refine ok_f (nI_nlt (a := d) (b := s) (by omega) (by omega)) (ok_i (fun q => st 1 ?_) (fun q => st 0 ?_))
    · have q := (nI_eq (b := 0) (by omega) (by decide)).mp q
      rw [q]; rfl
    · have q : ¬ s = 0 := fun h => q (by rw [h]; rfl)
      show (0 : Int64) = if s = 0 then 1 else 0
      rw [if_neg q]
  · rintro x w ⟨rfl, h1⟩ F
    rw [M_walks_l43_s]
    unfold M_walks_n43 M_walks_n72
    exact ok_t (nI_lt (by omega) (by omega)) (main w h1)
