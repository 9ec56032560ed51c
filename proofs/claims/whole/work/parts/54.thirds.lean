
/-! the other thirds -/
section THIRDS2
variable {d : Nat} {be ga : Nat → Nat} {b c : Nat → Int32}
theorem mulb {x t : Int} (h1 : -40 ≤ x) (h2 : x ≤ 40) (h3 : 0 ≤ t) (h4 : t ≤ 100000) : -4000000 ≤ x * t ∧ x * t ≤ 4000000 := by
  have a := Int.mul_le_mul_of_nonneg_right h1 h3
  have b := Int.mul_le_mul_of_nonneg_right h2 h3
  omega
theorem pZ_range (hT : TT d be ga) (h2 : L2 d be ga) (h4 : L4 d be ga) {j i l : Nat} (hj1 : 1 ≤ j) (hj : j < d) (hi : i < d + 1) (hl : l < d + 1) (r1 : RO d be ga j) (r0 : RO d be ga (j - 1)) : -20000000 ≤ pZ d be ga j i l ∧ pZ d be ga j i l ≤ 20000000 := by
  have hd := hT.1
  have bt : ∀ {j' l' : Nat}, j' < d + 1 → l' < d + 1 → RO d be ga j' → 0 ≤ tZ d be ga j' i l' ∧ tZ d be ga j' i l' ≤ 100000 := by
    intro j' l' hj' hl' r
    have a := (r i hi).1 l' hl'
    have b := RO_le r hi hl'
    have c := kt_le be ga hj'
    have e := h4.2
    omega
  have p0 := (hT.2.1 0 (by omega)).1
  have pl := hT.2.1 l (by omega)
  have pj := hT.2.1 j (by omega)
  have a1 : -4000000 ≤ (if l = 0 then 0 else (be (l - 1) : Int) * tZ d be ga j i (l - 1)) ∧ (if l = 0 then 0 else (be (l - 1) : Int) * tZ d be ga j i (l - 1)) ≤ 4000000 := by
    by_cases e : l = 0
    · rw [if_pos e]; omega
    · have q := hT.2.1 (l - 1) (by omega)
      have w := bt (j' := j) (l' := l - 1) (by omega) (by omega) r1
      rw [if_neg e]
      exact mulb (by omega) (by omega) w.1 w.2
  have a2 : -4000000 ≤ (ia be ga l - ia be ga j) * tZ d be ga j i l ∧ (ia be ga l - ia be ga j) * tZ d be ga j i l ≤ 4000000 := by
    have w := bt (j' := j) (l' := l) (by omega) (by omega) r1
    have := h2 l hl
    have := h2 j (by omega)
    exact mulb (by unfold ia; omega) (by unfold ia; omega) w.1 w.2
  have a3 : -4000000 ≤ (if l < d then (ga (l + 1) : Int) * tZ d be ga j i (l + 1) else 0) ∧ (if l < d then (ga (l + 1) : Int) * tZ d be ga j i (l + 1) else 0) ≤ 4000000 := by
    by_cases e : l < d
    · have q := hT.2.1 (l + 1) (by omega)
      have w := bt (j' := j) (l' := l + 1) (by omega) (by omega) r1
      rw [if_pos e]
      exact mulb (by omega) (by omega) w.1 w.2
    · rw [if_neg e]; omega
  have a4 : -4000000 ≤ (be (j - 1) : Int) * tZ d be ga (j - 1) i l ∧ (be (j - 1) : Int) * tZ d be ga (j - 1) i l ≤ 4000000 := by
    have q := hT.2.1 (j - 1) (by omega)
    have w := bt (j' := j - 1) (l' := l) (by omega) (by omega) r0
    exact mulb (by omega) (by omega) w.1 w.2
  unfold pZ pS
  omega
theorem Td_thirdTimes_s {t : Nat → Int64} {i j l : Nat} (hT : TT d be ga) (hb : TB b be) (hc : TB c ga) (hj1 : 1 ≤ j) (hj : j < d) (hi : i < d + 1) (hl : l < d + 1) (t1 : TA d be ga t j) (t0 : TA d be ga t (j - 1)) : Td_thirdTimes (nI i) (nI j) (nI l) (nI d) b c t = some (lZ (pZ d be ga j i l)) := by
  have hd := hT.1
  obtain ⟨k, rfl⟩ : ∃ k, j = k + 1 := ⟨j - 1, by omega⟩
  rw [Nat.add_sub_cancel] at t0
  have pk := hT.2.1 k (by omega)
  refine ok_eq ?_
  unfold Td_thirdTimes
  have q0 := dx_lt (i := i) (j := k + 1) (l := l) (by omega) (by omega) (by omega)
  have q1 := dx_lt (i := i) (j := k) (l := l) (by omega) (by omega) (by omega)
  rw [nI_pred]
  refine ok_e (Td_level_s (by omega) hb hc) (ok_e (Td_level_s (by omega) hb hc) (ok_e Td_place_s (ok_g (inb_nI (by omega) (by omega)) (ok_g (inb_nI (by omega) (by omega)) (ok_e Td_place_s (ok_g (inb_nI (by omega) (by omega)) (ok_l ?_)))))))
  rw [cl_nI (by omega), cl_nI (by omega), cl_nI (by omega), t1 i hi l hl, t0 i hi l hl, hb k (by omega), aa_lZ hT (by omega) (by omega), n_lZ (by omega), lZ_mul, lZ_mul, lZ_sub]
  have mid : ∀ v : Int, v = (ia be ga l - ia be ga (k + 1)) * tZ d be ga (k + 1) i l - be k * tZ d be ga k i l + (if l = 0 then 0 else (be (l - 1) : Int) * tZ d be ga (k + 1) i (l - 1)) → Ok (Td_thirdTimes_n82 (nI d) c t (nI i) (nI (k + 1)) (nI l) (lZ v)) (fun z => z = lZ (pZ d be ga (k + 1) i l)) := by
    intro v hv
    unfold Td_thirdTimes_n82 Td_thirdTimes_n118
    refine ok_i (fun q => ok_s ?_) (fun q => ?_)
    · have q := (nI_leI (by omega) (by omega)).mp q
      unfold pZ pS
      rw [hv, Nat.add_sub_cancel, if_neg (show ¬ l < d by omega)]
      congr 1
      omega
    · have q : ¬ d ≤ l := fun h => q ((nI_leI (by omega) (by omega)).mpr h)
      have pl := hT.2.1 (l + 1) (by omega)
      have q2 := dx_lt (i := i) (j := k + 1) (l := l + 1) (by omega) (by omega) (by omega)
      rw [nI_1]
      refine ok_g (inb_nI (by omega) (by omega)) (ok_e Td_place_s (ok_g (inb_nI (by omega) (by omega)) (ok_l (ok_s ?_))))
      rw [cl_nI (by omega), cl_nI (by omega), t1 i hi (l + 1) (by omega), hc (l + 1) (by omega), n_lZ (by omega), lZ_mul, lZ_add]
      unfold pZ pS
      rw [hv, Nat.add_sub_cancel, if_pos (show l < d by omega)]
      congr 1
      omega
  refine ok_i (fun q => mid _ ?_) (fun q => ?_)
  · have q := (nI_leI (b := 0) (by omega) (by decide)).mp q
    rw [if_pos (by omega), Int.add_zero]
  · have q : ¬ l = 0 := fun h => q (by rw [h]; decide)
    obtain ⟨m, rfl⟩ : ∃ m, l = m + 1 := ⟨l - 1, by omega⟩
    have pl := hT.2.1 m (by omega)
    have q2 := dx_lt (i := i) (j := k + 1) (l := m) (by omega) (by omega) (by omega)
    rw [nI_pred]
    refine ok_g (inb_nI (by omega) (by omega)) (ok_e Td_place_s (ok_g (inb_nI (by omega) (by omega)) (ok_l ?_)))
    rw [cl_nI (by omega), cl_nI (by omega), t1 i hi m (by omega), hb m (by omega), n_lZ (by omega), lZ_mul, lZ_add]
    exact mid _ (by rw [if_neg q, Nat.add_sub_cancel])
def QZ (d : Nat) (be ga : Nat → Nat) (j i l : Nat) : Prop := 0 ≤ pZ d be ga j i l ∧ pZ d be ga j i l % (ga (j + 1) : Int) = 0
def TR (d : Nat) (be ga : Nat → Nat) (t : Nat → Int64) (j i l : Nat) : Prop := QZ d be ga j i l ∧ t (dx i (j + 1) l) = lZ (tZ d be ga (j + 1) i l)
/-- where the laying of the other thirds stands: rows up to j, in row j+1 the posts below i, and of i those below l -/
def TLy (d : Nat) (be ga : Nat → Nat) (t : Nat → Int64) (j i l : Nat) : Prop := (∀ j', j' ≤ j → TA d be ga t j') ∧ (∀ i', i' < i → ∀ l', l' < d + 1 → TR d be ga t j i' l') ∧ ∀ l', l' < l → TR d be ga t j i l'
def TP (d : Nat) (be ga : Nat → Nat) (j : Nat) : Prop := (∀ j', j' ≤ j → RO d be ga j') ∧ ∀ j', 1 ≤ j' → j' < j → ∀ i, i < d + 1 → ∀ l, l < d + 1 → QZ d be ga j' i l
theorem TLy_upd {t : Nat → Int64} {j i l : Nat} (hd : d ≤ 5) (hj : j < d) (hi : i < d + 1) (hl : l < d + 1) (h : TLy d be ga t j i l) (hq : QZ d be ga j i l) : TLy d be ga (vp_updL t (dx i (j + 1) l) (lZ (tZ d be ga (j + 1) i l))) j i (l + 1) := by
  refine ⟨fun j' hj' i' hi' l' hl' => ?_, fun i' hi' l' hl' => ?_, all_next.mpr ⟨fun l' hl' => ?_, hq, pk_uLs⟩⟩
  · have := h.1 j' hj' i' hi' l' hl'
    rw [pk_uLn (by unfold dx; omega)]
    exact this
  · have := h.2.1 i' hi' l' hl'
    unfold TR at *
    rw [pk_uLn (by unfold dx; omega)]
    exact this
  · have := h.2.2 l' hl'
    unfold TR at *
    rw [pk_uLn (by unfold dx; omega)]
    exact this
theorem TLy_row {t : Nat → Int64} {j i : Nat} (h : TLy d be ga t j i (d + 1)) : TLy d be ga t j (i + 1) 0 := ⟨h.1, all_next.mpr ⟨h.2.1, h.2.2⟩, all_none⟩
theorem TLy_next {t : Nat → Int64} {j : Nat} (hT : TT d be ga) (h1 : L1 d be ga) (h4 : L4 d be ga) (hj1 : 1 ≤ j) (hj : j < d) (hp : TP d be ga j) (h : TLy d be ga t j (d + 1) 0) : TLy d be ga t (j + 1) 0 0 ∧ TP d be ga (j + 1) := by
  have hq : ∀ i, i < d + 1 → ∀ l, l < d + 1 → QZ d be ga j i l := fun i hi l hl => (h.2.1 i hi l hl).1
  refine ⟨⟨fun j' hj' => ?_, all_none, all_none⟩, fun j' hj' => ?_, fun j' a b => ?_⟩
  · by_cases e : j' = j + 1
    · rw [e]; exact fun i hi l hl => (h.2.1 i hi l hl).2
    · exact h.1 j' (by omega)
  · by_cases e : j' = j + 1
    · rw [e]; exact RO_next hT h1 h4 hj1 hj (hp.1 j (Nat.le_refl j)) (hp.1 (j - 1) (by omega)) hq
    · exact hp.1 j' (by omega)
  · by_cases e : j' = j
    · rw [e]; exact hq
    · exact hp.2 j' a (by omega)
theorem TP_1 (hT : TT d be ga) (h1 : L1 d be ga) (h2 : L2 d be ga) : TP d be ga 1 := by
  refine ⟨fun j' hj' => ?_, fun j' a b => by omega⟩
  by_cases e : j' = 0
  · rw [e]; exact RO_0
  · rw [show j' = 1 by omega]; exact RO_1 hT h1 h2
theorem TLy_1 {t : Nat → Int64} (h0 : TA d be ga t 0) (h1 : TA d be ga t 1) : TLy d be ga t 1 0 0 := by
  refine ⟨fun j' hj' => ?_, all_none, all_none⟩
  by_cases e : j' = 0
  · rw [e]; exact h0
  · rw [show j' = 1 by omega]; exact h1
def TW (d : Nat) (be ga : Nat → Nat) (z : Int32 × (Nat → Int64)) : Prop := (L6 d be ga → z.1 = 1 ∧ ∀ j, j < d + 1 → TA d be ga z.2 j) ∧ (¬ L6 d be ga → z.1 = 0)
theorem TW_1 {t : Nat → Int64} (h : TLy d be ga t d 0 0) (hp : TP d be ga d) : TW d be ga (1, t) := ⟨fun _ => ⟨rfl, fun j hj => h.1 j (by omega)⟩, fun h2 => absurd (fun j a b i hi l hl => hp.2 j a b i hi l hl) h2⟩
theorem TW_0 {t : Nat → Int64} {j i l : Nat} (hj1 : 1 ≤ j) (hj : j < d) (hi : i < d + 1) (hl : l < d + 1) (h : ¬ QZ d be ga j i l) : TW d be ga (0, t) := ⟨fun h2 => absurd (h2 j hj1 hj i hi l hl) h, fun _ => rfl⟩
theorem Td_layOtherThirds_s {t : Nat → Int64} (hT : TT d be ga) (hb : TB b be) (hc : TB c ga) (h1 : L1 d be ga) (h2 : L2 d be ga) (h4 : L4 d be ga) (t0 : TA d be ga t 0) (t1 : TA d be ga t 1) : Ok (Td_layOtherThirds (nI d) b c t) (TW d be ga) := by
  have hd := hT.1
  unfold Td_layOtherThirds
  refine fr2 (fun F x t => Td_layOtherThirds_l2 (nI d) b c F x t) (fun j x t => x = nI j ∧ 1 ≤ j ∧ TLy d be ga t j 0 0 ∧ TP d be ga j) d (fuel_big (by omega)) ?_ ?_ 1 hd.1 1 t ⟨rfl, Nat.le_refl 1, TLy_1 t0 t1, TP_1 hT h1 h2⟩
  · rintro j hj x t ⟨rfl, hj1, g1, g2⟩ F ih
    have pg := hT.2.1 (j + 1) (by omega)
    have pg1 := (h1.2 j hj).2
    rw [Td_layOtherThirds_l2_s]
    unfold Td_layOtherThirds_n2
    refine ok_f (nI_ge hj (by omega)) ?_
    refine fr2 (fun F x t => Td_layOtherThirds_l12 _ (nI d) b c F (nI j) x t) (fun i x t => x = nI i ∧ TLy d be ga t j i 0) (d + 1) (fuel_big (by omega)) ?_ ?_ 0 (Nat.zero_le _) 0 t ⟨rfl, g1⟩
    · rintro i hi x t ⟨rfl, e1⟩ F2 ih2
      rw [Td_layOtherThirds_l12_s]
      unfold Td_layOtherThirds_n12
      refine ok_f (nI_nlt (a := d) (b := i) (by omega) (by omega)) ?_
      refine fr2 (fun F x t => Td_layOtherThirds_l22 _ (nI d) b c F (nI j) (nI i) x t) (fun l x t => x = nI l ∧ TLy d be ga t j i l) (d + 1) (fuel_big (by omega)) ?_ ?_ 0 (Nat.zero_le _) 0 t ⟨rfl, e1⟩
      · rintro l hl x t ⟨rfl, f1⟩ F3 ih3
        have rg := pZ_range hT h2 h4 hj1 hj hi hl (g2.1 j (Nat.le_refl j)) (g2.1 (j - 1) (by omega))
        have q0 := dx_lt (i := i) (j := j + 1) (l := l) (by omega) (by omega) (by omega)
        rw [Td_layOtherThirds_l22_s]
        unfold Td_layOtherThirds_n22 Td_layOtherThirds_n74
        refine ok_f (nI_nlt (a := d) (b := l) (by omega) (by omega)) (ok_e (Td_thirdTimes_s hT hb hc hj1 hj hi hl (f1.1 j (Nat.le_refl j)) (f1.1 (j - 1) (by omega))) ?_)
        rw [nI_1, cl_nI (by omega), hc (j + 1) (by omega), n_lZ (by omega)]
        refine ok_i (fun q => ok_s (TW_0 hj1 hj hi hl (fun h => ?_))) (fun q => ?_)
        · have := (lZ_neg (by omega) (by omega)).mp q
          have := h.1
          omega
        have q : 0 ≤ pZ d be ga j i l := by
          rcases Int.lt_or_le (pZ d be ga j i l) 0 with h | h
          · exact absurd ((lZ_neg (by omega) (by omega)).mpr h) q
          · exact h
        refine ok_g (inb_nI (by omega) (by omega)) (ok_f (nI_ne0 (by omega) (by omega)) (ok_g (decide_eq_true (fun h => ?_)) (ok_i (fun q2 => ok_e Td_place_s (ok_l (ok_g (inb_nI (by omega) (by omega)) (ih3 _ _ ⟨nI_1 l, ?_⟩)))) (fun q2 => ok_s (TW_0 hj1 hj hi hl (fun h => ?_))))))
        · rw [← lN_lZ, lN0 (by omega)] at h; omega
        · rw [cl_nI (by omega), lZ_div q (by omega) (by omega) (by omega), ← tZ_2 d be ga j i l hj1]
          exact TLy_upd (by omega) hj hi hl f1 ⟨q, (lZ_rem q (by omega) (by omega) (by omega)).mp q2⟩
        · exact absurd ((lZ_rem q (by omega) (by omega) (by omega)).mpr h.2) q2
      · rintro x t ⟨rfl, f1⟩ F3
        rw [Td_layOtherThirds_l22_s]
        unfold Td_layOtherThirds_n22 Td_layOtherThirds_n107
        exact ok_t (nI_lt (by omega) (by omega)) (ih2 _ _ ⟨nI_1 i, TLy_row f1⟩)
    · rintro x t ⟨rfl, e1⟩ F2
      rw [Td_layOtherThirds_l12_s]
      unfold Td_layOtherThirds_n12 Td_layOtherThirds_n113
      exact ok_t (nI_lt (by omega) (by omega)) (ih _ _ ⟨nI_1 j, by omega, TLy_next hT h1 h4 hj1 hj g2 e1⟩)
  · rintro x t ⟨rfl, hj1, g1, g2⟩ F
    rw [Td_layOtherThirds_l2_s]
    unfold Td_layOtherThirds_n2 Td_layOtherThirds_n119
    exact ok_t (nI_le (Nat.le_refl d) (by omega)) (ok_s (TW_1 g1 g2))
end THIRDS2
