
/-! longs as whole numbers; the places of the thirds -/
def lZ (z : Int) : Int64 := Int64.ofInt z
theorem lZ_add (a b : Int) : lZ a + lZ b = lZ (a + b) := (Int64.ofInt_add a b).symm
theorem lZ_sub (a b : Int) : lZ a - lZ b = lZ (a - b) := (Int64.ofInt_sub a b).symm
theorem lZ_mul (a b : Int) : lZ a * lZ b = lZ (a * b) := (Int64.ofInt_mul a b).symm
theorem lZ_toInt {z : Int} (h1 : -9223372036854775808 ≤ z) (h2 : z < 9223372036854775808) : (lZ z).toInt = z := Int64.toInt_ofInt_of_le (by omega) (by omega)
theorem i_lZ {x : Int32} {z : Int} (h : x.toInt = z) : x.toInt64 = lZ z := by
  have a := Int32.le_toInt x
  have b := Int32.toInt_lt x
  refine Int64.toInt_inj.mp ?_
  rw [Int32.toInt_toInt64, lZ_toInt (by omega) (by omega), h]
theorem n_lZ {n : Nat} (h : n < 2 ^ 31) : (nI n).toInt64 = lZ n := i_lZ (nI_toInt h)
theorem lN_lZ (n : Nat) : lN n = lZ n := rfl
theorem lZ_nat {z : Int} (h : 0 ≤ z) : lZ z = lN z.toNat := by
  rw [lN_lZ, Int.toNat_of_nonneg h]
theorem lZ_neg {z : Int} (h1 : -9223372036854775808 ≤ z) (h2 : z < 9223372036854775808) : lg_cmp (lZ z) 0 < 0 ↔ z < 0 := by
  rw [lgc_lt, Int64.lt_iff_toInt_lt, lZ_toInt h1 h2]
  rfl
theorem lZ_rem {z : Int} {g : Nat} (h1 : 0 ≤ z) (h2 : z < 9223372036854775808) (hg : 0 < g) (hg2 : g < 2 ^ 63) : lg_cmp (lZ z - lZ z / lZ g * lZ g) 0 = 0 ↔ z % (g : Int) = 0 := by
  obtain ⟨n, rfl⟩ : ∃ n : Nat, z = n := ⟨z.toNat, by omega⟩
  have hm := Nat.mod_lt n hg
  rw [← lN_lZ, ← lN_lZ, pk_lRem (by omega) (by omega) (by omega), lg0, lN0 (by omega)]
  omega
theorem lZ_div {z : Int} {g : Nat} (h1 : 0 ≤ z) (h2 : z < 9223372036854775808) (hg : 0 < g) (hg2 : g < 2 ^ 63) : lZ z / lZ g = lZ (z / (g : Int)) := by
  obtain ⟨n, rfl⟩ : ∃ n : Nat, z = n := ⟨z.toNat, by omega⟩
  rw [← lN_lZ, ← lN_lZ, pk_lDiv (by omega) (by omega) (by omega)]
  rfl
theorem nI_mulN (a b : Nat) : nI a * nI b = nI (a * b) := (Int32.ofNat_mul a b).symm
theorem nI_addN (a b : Nat) : nI a + nI b = nI (a + b) := (Int32.ofNat_add a b).symm
def dx (i j l : Nat) : Nat := 36 * i + 6 * j + l
theorem dx_lt {i j l : Nat} (h1 : i < 6) (h2 : j < 6) (h3 : l < 6) : dx i j l < 216 := by unfold dx; omega
theorem Td_place_s {i j l : Nat} : Td_place (nI i) (nI j) (nI l) = some (nI (dx i j l)) := by
  unfold Td_place dx
  rw [show (6 : Int32) = nI 6 from rfl, nI_mulN, nI_addN, nI_mulN, nI_addN, show (i * 6 + j) * 6 + l = 36 * i + 6 * j + l by omega]
theorem M_dx {i j l : Nat} : 36 * nI i + 6 * nI j + nI l = nI (dx i j l) := by
  unfold dx
  rw [show (6 : Int32) = nI 6 from rfl, show (36 : Int32) = nI 36 from rfl, nI_mulN, nI_mulN, nI_addN, nI_addN]
theorem pred_eq {l i : Nat} (hl : l < 100) (hi : i < 100) : nI l = nI i - 1 ↔ l + 1 = i := by
  constructor
  · intro h
    have h2 : nI l + 1 = nI i := by rw [h, Int32.sub_add_cancel]
    rw [nI_1] at h2
    exact (nI_eq (by omega) (by omega)).mp h2
  · rintro rfl
    rw [nI_pred]
section THIRDS
variable {d : Nat} {be ga : Nat → Nat} {b c : Nat → Int32}
def TA (d : Nat) (be ga : Nat → Nat) (t : Nat → Int64) (j : Nat) : Prop := ∀ i, i < d + 1 → ∀ l, l < d + 1 → t (dx i j l) = lZ (tZ d be ga j i l)
theorem a_lZ (hT : TT d be ga) {i : Nat} (hi : i < 6) : (lI be ga i).toInt64 = lZ (ia be ga i) := i_lZ (lI_int hT hi)
theorem aa_lZ (hT : TT d be ga) {i j : Nat} (hi : i < 6) (hj : j < 6) : (lI be ga i - lI be ga j).toInt64 = lZ (ia be ga i - ia be ga j) := by
  have h0 := (hT.2.1 0 (by omega)).1
  have h1 := hT.2.1 i hi
  have h2 := hT.2.1 j hj
  refine i_lZ ?_
  rw [fb_subI (by rw [lI_int hT hi, lI_int hT hj]; omega) (by rw [lI_int hT hi, lI_int hT hj]; omega), lI_int hT hi, lI_int hT hj]
  rfl
theorem Td_firstThird_s {i l : Nat} (hT : TT d be ga) (hb : TB b be) (hc : TB c ga) (hi : i < d + 1) (hl : l < d + 1) : Ok (Td_firstThird (nI i) (nI l) b c) (fun z => z.toInt64 = lZ (tZ d be ga 1 i l)) := by
  have hd := hT.1
  have l1 := hT.2.1 i (by omega)
  unfold Td_firstThird Td_firstThird_n42
  rw [cl_nI (by omega), hb i (by omega), hc i (by omega), nI_1]
  show Ok _ (fun z : Int32 => z.toInt64 = lZ (if l + 1 = i then (ga i : Int) else if l = i then ia be ga i else if l = i + 1 then (be i : Int) else 0))
  refine ok_i (fun q => ok_g (inb_nI (by omega) (by omega)) (ok_s ?_)) (fun q => ok_i (fun q2 => ok_e (Td_level_s (by omega) hb hc) (ok_s ?_)) (fun q2 => ok_i (fun q3 => ok_g (inb_nI (by omega) (by omega)) (ok_s ?_)) (fun q3 => ok_s ?_)))
  · rw [if_pos ((pred_eq (by omega) (by omega)).mp q), n_lZ (by omega)]
  · rw [if_neg (fun h => q ((pred_eq (by omega) (by omega)).mpr h)), if_pos ((nI_eq (by omega) (by omega)).mp q2), a_lZ hT (by omega)]
  · rw [if_neg (fun h => q ((pred_eq (by omega) (by omega)).mpr h)), if_neg (fun h => q2 (congrArg nI h)), if_pos ((nI_eq (by omega) (by omega)).mp q3), n_lZ (by omega)]
  · rw [if_neg (fun h => q ((pred_eq (by omega) (by omega)).mpr h)), if_neg (fun h => q2 (congrArg nI h)), if_neg (fun h => q3 (congrArg nI h))]
    rfl
/-- the first two rows, up to post i, then up to l -/
def TF (d : Nat) (be ga : Nat → Nat) (t : Nat → Int64) (i l : Nat) : Prop := t (dx i 0 l) = lZ (tZ d be ga 0 i l) ∧ t (dx i 1 l) = lZ (tZ d be ga 1 i l)
theorem TF_upd {t : Nat → Int64} {i l : Nat} (hi : i < 6) (hl : l < 6) (h : (∀ i', i' < i → ∀ l', l' < d + 1 → TF d be ga t i' l') ∧ ∀ l', l' < l → TF d be ga t i l') (hd : d ≤ 5) : (∀ i', i' < i → ∀ l', l' < d + 1 → TF d be ga (vp_updL (vp_updL t (dx i 0 l) (lZ (tZ d be ga 0 i l))) (dx i 1 l) (lZ (tZ d be ga 1 i l))) i' l') ∧ ∀ l', l' < l + 1 → TF d be ga (vp_updL (vp_updL t (dx i 0 l) (lZ (tZ d be ga 0 i l))) (dx i 1 l) (lZ (tZ d be ga 1 i l))) i l' := by
  refine ⟨fun i' hi' l' hl' => ?_, all_next.mpr ⟨fun l' hl' => ?_, ?_⟩⟩
  · have := h.1 i' hi' l' hl'
    unfold TF dx at *
    rw [pk_uLn (by omega), pk_uLn (by omega), pk_uLn (by omega), pk_uLn (by omega)]
    exact this
  · have := h.2 l' hl'
    unfold TF dx at *
    rw [pk_uLn (by omega), pk_uLn (by omega), pk_uLn (by omega), pk_uLn (by omega)]
    exact this
  · unfold TF
    rw [pk_uLs, pk_uLn (by unfold dx; omega), pk_uLs]
    exact ⟨rfl, rfl⟩
theorem t0_1 {i l : Nat} (h : l = i) : (1 : Int64) = lZ (tZ d be ga 0 i l) := by
  show (1 : Int64) = lZ (if l = i then 1 else 0)
  rw [if_pos h]; rfl
theorem t0_0 {i l : Nat} (h : ¬ l = i) : (0 : Int64) = lZ (tZ d be ga 0 i l) := by
  show (0 : Int64) = lZ (if l = i then 1 else 0)
  rw [if_neg h]; rfl
theorem Td_layFirstThirds_s {t : Nat → Int64} (hT : TT d be ga) (hb : TB b be) (hc : TB c ga) : Ok (Td_layFirstThirds (nI d) b c t) (fun t => TA d be ga t 0 ∧ TA d be ga t 1) := by
  have hd := hT.1
  unfold Td_layFirstThirds
  refine fr2 (fun F x t => Td_layFirstThirds_l2 (nI d) b c F x t) (fun i x t => x = nI i ∧ ∀ i', i' < i → ∀ l', l' < d + 1 → TF d be ga t i' l') (d + 1) (fuel_big (by omega)) ?_ ?_ 0 (Nat.zero_le _) 0 t ⟨rfl, all_none⟩
  · rintro i hi x t ⟨rfl, h1⟩ F ih
    rw [Td_layFirstThirds_l2_s]
    unfold Td_layFirstThirds_n2
    refine ok_f (nI_nlt (a := d) (b := i) (by omega) (by omega)) ?_
    refine fr2 (fun F x t => Td_layFirstThirds_l12 _ (nI d) b c F (nI i) x t) (fun l x t => x = nI l ∧ (∀ i', i' < i → ∀ l', l' < d + 1 → TF d be ga t i' l') ∧ ∀ l', l' < l → TF d be ga t i l') (d + 1) (fuel_big (by omega)) ?_ ?_ 0 (Nat.zero_le _) 0 t ⟨rfl, h1, all_none⟩
    · rintro l hl x t ⟨rfl, g1⟩ F2 ih2
      rw [Td_layFirstThirds_l12_s]
      unfold Td_layFirstThirds_n12 Td_layFirstThirds_n40
      have go : ∀ v : Int64, v = lZ (tZ d be ga 0 i l) → Ok (gd (inb (nI (dx i 0 l)) 216) <| bnd (Td_place (nI i) 1 (nI l)) fun z1 => bnd (Td_firstThird (nI i) (nI l) b c) fun z2 => gd (inb z1 216) <| (Td_layFirstThirds_l12 (fun x1 t => Td_layFirstThirds_l2 (nI d) b c F x1 t) (nI d) b c F2 (nI i) (nI l + 1) (vp_updL (vp_updL t ((nI (dx i 0 l)).toNatClampNeg) v) (z1.toNatClampNeg) (z2.toInt64)))) (fun t => TA d be ga t 0 ∧ TA d be ga t 1) := by
        rintro v rfl
        have q0 := dx_lt (i := i) (j := 0) (l := l) (by omega) (by omega) (by omega)
        have q1 := dx_lt (i := i) (j := 1) (l := l) (by omega) (by omega) (by omega)
        refine ok_g (inb_nI (by omega) (by omega)) (ok_e (Td_place_s (j := 1)) (ok_b (Td_firstThird_s hT hb hc hi hl) (fun z hz => ok_g (inb_nI (by omega) (by omega)) (ih2 _ _ ⟨nI_1 l, ?_⟩))))
        rw [cl_nI (by omega), cl_nI (by omega), hz]
        exact TF_upd (by omega) (by omega) g1 (by omega)
      exact ok_f (nI_nlt (a := d) (b := l) (by omega) (by omega)) (ok_e (Td_place_s (j := 0)) (ok_i (fun q => go 1 (t0_1 ((nI_eq (by omega) (by omega)).mp q))) (fun q => go 0 (t0_0 (fun h => q (congrArg nI h))))))
    · rintro x t ⟨rfl, g1, g2⟩ F2
      rw [Td_layFirstThirds_l12_s]
      unfold Td_layFirstThirds_n12 Td_layFirstThirds_n65
      exact ok_t (nI_lt (by omega) (by omega)) (ih _ _ ⟨nI_1 i, all_next.mpr ⟨g1, g2⟩⟩)
  · rintro x t ⟨rfl, h1⟩ F
    rw [Td_layFirstThirds_l2_s]
    unfold Td_layFirstThirds_n2 Td_layFirstThirds_n71
    exact ok_t (nI_lt (by omega) (by omega)) (ok_s ⟨fun i hi l hl => (h1 i hi l hl).1, fun i hi l hl => (h1 i hi l hl).2⟩)
end THIRDS
