/-! laws 1 to 5 -/
def lI (be ga : Nat → Nat) (i : Nat) : Int32 := nI (be 0) - nI (be i) - nI (ga i)
def L1 (d : Nat) (be ga : Nat → Nat) : Prop := ga 1 = 1 ∧ ∀ i, i < d → 1 ≤ be i ∧ 1 ≤ ga (i + 1)
def L2 (d : Nat) (be ga : Nat → Nat) : Prop := ∀ i, i < d + 1 → be i + ga i ≤ be 0
def L3 (d : Nat) (be ga : Nat → Nat) : Prop := ∀ i, i < d → ga i ≤ ga (i + 1) ∧ (i + 1 < d → be (i + 1) ≤ be i)
def kN (be ga : Nat → Nat) : Nat → Nat
  | 0 => 1
  | i + 1 => kN be ga i * be i / ga (i + 1)
def tN (be ga : Nat → Nat) (m : Nat) : Nat := fb_sm (kN be ga) (m + 1)
def L4 (d : Nat) (be ga : Nat → Nat) : Prop := (∀ i, i < d → kN be ga i * be i % ga (i + 1) = 0) ∧ tN be ga d ≤ 100000
def aN (be ga : Nat → Nat) (i : Nat) : Nat := be 0 - be i - ga i
def L5 (d : Nat) (be ga : Nat → Nat) : Prop := be 0 * tN be ga d % 2 = 0 ∧ ∀ i, i < d + 1 → kN be ga i * aN be ga i % 2 = 0
theorem kN_s (be ga : Nat → Nat) (i : Nat) : kN be ga (i + 1) = kN be ga i * be i / ga (i + 1) := rfl
section LAWS
variable {d : Nat} {be ga : Nat → Nat} {b c : Nat → Int32}
theorem Td_level_s {i : Nat} (hi : i < 6) (hb : TB b be) (hc : TB c ga) : Td_level (nI i) b c = some (lI be ga i) := by
  unfold Td_level lI
  rw [gd_t (inb_nI hi (by omega)), cl_nI (by omega), show (0 : Int32).toNatClampNeg = 0 from rfl, hb 0 (by omega), hb i hi, hc i hi]
theorem M_a_s {i : Nat} (hi : i < 6) (hb : TB b be) (hc : TB c ga) : M_a (nI i) b c = some (lI be ga i) := by
  unfold M_a lI
  rw [gd_t (inb_nI hi (by omega)), cl_nI (by omega), show (0 : Int32).toNatClampNeg = 0 from rfl, hb 0 (by omega), hb i hi, hc i hi]
theorem lI_int (hT : TT d be ga) {i : Nat} (hi : i < 6) : (lI be ga i).toInt = (be 0 : Int) - be i - ga i := by
  have h0 := (hT.2.1 0 (by omega)).1
  have h1 := (hT.2.1 i hi).1
  have h2 := (hT.2.1 i hi).2
  unfold lI
  have e0 : (nI (be 0)).toInt = be 0 := nI_toInt (by omega)
  have e1 : (nI (be i)).toInt = be i := nI_toInt (by omega)
  have e2 : (nI (ga i)).toInt = ga i := nI_toInt (by omega)
  have e3 : (nI (be 0) - nI (be i)).toInt = (be 0 : Int) - be i := by rw [fb_subI (by rw [e0, e1]; omega) (by rw [e0, e1]; omega), e0, e1]
  rw [fb_subI (by rw [e3, e2]; omega) (by rw [e3, e2]; omega), e3, e2]
theorem lI_pos (hT : TT d be ga) {i : Nat} (hi : i < 6) : 0 ≤ lI be ga i ↔ be i + ga i ≤ be 0 := by
  rw [fa_le, lI_int hT hi]
  have z : (0 : Int32).toInt = 0 := rfl
  omega
theorem lI_nI (hT : TT d be ga) {i : Nat} (hi : i < 6) (h : be i + ga i ≤ be 0) : lI be ga i = nI (aN be ga i) := by
  have h0 := (hT.2.1 0 (by omega)).1
  rw [fa_eq, lI_int hT hi, nI_toInt (by unfold aN; omega)]
  unfold aN
  omega
theorem lI_0 (hT : TT d be ga) : lI be ga 0 = 0 := by
  rw [fa_eq, lI_int hT (by omega), hT.2.2.2.1]
  have z : (0 : Int32).toInt = 0 := rfl
  omega
theorem Td_isPositive_s (hT : TT d be ga) (hb : TB b be) (hc : TB c ga) : Ok (Td_isPositive (nI d) b c) (fun z => (L1 d be ga → z = 1) ∧ (¬ L1 d be ga → z = 0)) := by
  have hd := hT.1
  unfold Td_isPositive
  refine fr1 (fun F x => Td_isPositive_l2 (nI d) b c F x) (fun i x => x = nI i ∧ ∀ j, j < i → 1 ≤ be j ∧ 1 ≤ ga (j + 1)) d (fuel_big (by omega)) ?_ ?_ 0 (Nat.zero_le _) 0 ⟨rfl, all_none⟩
  · rintro i hi x ⟨rfl, h1⟩ F ih
    have l1 := hT.2.1 i (by omega)
    have l2 := hT.2.1 (i + 1) (by omega)
    rw [Td_isPositive_l2_s]
    unfold Td_isPositive_n2 Td_isPositive_n32
    rw [nI_1, cl_nI (by omega), cl_nI (by omega), hb i (by omega), hc (i + 1) (by omega)]
    refine ok_f (nI_ge hi (by omega)) (ok_g (inb_nI (by omega) (by omega)) (ok_i (fun g => ok_s ⟨fun h => ?_, fun _ => rfl⟩) (fun g => ok_g (inb_nI (by omega) (by omega)) (ok_i (fun g2 => ih _ ⟨rfl, all_next.mpr ⟨h1, ?_, ?_⟩⟩) (fun g2 => ok_s ⟨fun h => ?_, fun _ => rfl⟩)))))
    · have := (nI_ltI (b := 1) (by omega) (by decide)).mp g
      have := (h.2 i hi).1
      omega
    · exact Nat.le_of_not_lt (fun h => g ((nI_ltI (b := 1) (by omega) (by decide)).mpr h))
    · exact (nI_leI (a := 1) (by decide) (by omega)).mp g2
    · exact absurd ((nI_leI (a := 1) (by decide) (by omega)).mpr (h.2 i hi).2) g2
  · rintro x ⟨rfl, h1⟩ F
    have l2 := hT.2.1 1 (by omega)
    rw [Td_isPositive_l2_s]
    unfold Td_isPositive_n2 Td_isPositive_n40 Td_isPositive_n55
    rw [show (1 : Int32).toNatClampNeg = 1 from rfl, hc 1 (by omega)]
    refine ok_t (nI_le (Nat.le_refl d) (by omega)) (ok_i (fun g => ok_g isb_1 (ok_s ⟨fun _ => rfl, fun h => absurd ⟨(nI_eq (b := 1) (by omega) (by decide)).mp g, h1⟩ h⟩)) (fun g => ok_g isb_0 (ok_s ⟨fun h => absurd (by rw [h.1]; rfl) g, fun _ => rfl⟩)))
theorem Td_hasRoom_s (hT : TT d be ga) (hb : TB b be) (hc : TB c ga) : Ok (Td_hasRoom (nI d) b c) (fun z => (L2 d be ga → z = 1) ∧ (¬ L2 d be ga → z = 0)) := by
  have hd := hT.1
  unfold Td_hasRoom
  refine fr1 (fun F x => Td_hasRoom_l2 (nI d) b c F x) (fun i x => x = nI i ∧ ∀ j, j < i → be j + ga j ≤ be 0) (d + 1) (fuel_big (by omega)) ?_ ?_ 0 (Nat.zero_le _) 0 ⟨rfl, all_none⟩
  · rintro i hi x ⟨rfl, h1⟩ F ih
    rw [Td_hasRoom_l2_s]
    unfold Td_hasRoom_n2 Td_hasRoom_n18
    refine ok_f (nI_nlt (a := d) (b := i) (by omega) (by omega)) (ok_e (Td_level_s (by omega) hb hc) (ok_i (fun g => ih _ ⟨nI_1 i, all_next.mpr ⟨h1, (lI_pos hT (by omega)).mp g⟩⟩) (fun g => ok_s ⟨fun h => absurd ((lI_pos hT (by omega)).mpr (h i hi)) g, fun _ => rfl⟩)))
  · rintro x ⟨rfl, h1⟩ F
    rw [Td_hasRoom_l2_s]
    unfold Td_hasRoom_n2 Td_hasRoom_n26 Td_hasRoom_n39
    exact ok_t (nI_lt (by omega) (by omega)) (ok_e (Td_level_s (i := 0) (by omega) hb hc) (ok_t (lI_0 hT) (ok_g isb_1 (ok_s ⟨fun _ => rfl, fun h => absurd h1 h⟩))))
theorem Td_isInOrder_s (hT : TT d be ga) (hb : TB b be) (hc : TB c ga) : Ok (Td_isInOrder (nI d) b c) (fun z => (L3 d be ga → z = 1) ∧ (¬ L3 d be ga → z = 0)) := by
  have hd := hT.1
  unfold Td_isInOrder
  refine fr1 (fun F x => Td_isInOrder_l2 (nI d) b c F x) (fun i x => x = nI i ∧ ∀ j, j < i → ga j ≤ ga (j + 1) ∧ (j + 1 < d → be (j + 1) ≤ be j)) d (fuel_big (by omega)) ?_ ?_ 0 (Nat.zero_le _) 0 ⟨rfl, all_none⟩
  · rintro i hi x ⟨rfl, h1⟩ F ih
    have l1 := hT.2.1 i (by omega)
    have l2 := hT.2.1 (i + 1) (by omega)
    rw [Td_isInOrder_l2_s]
    unfold Td_isInOrder_n2 Td_isInOrder_n54 Td_isInOrder_n56
    rw [nI_1, cl_nI (by omega), cl_nI (by omega), hb i (by omega), hc (i + 1) (by omega), hc i (by omega), hb (i + 1) (by omega)]
    refine ok_f (nI_ge hi (by omega)) (ok_g (inb_nI (by omega) (by omega)) (ok_g (inb_nI (by omega) (by omega)) (ok_i (fun g => ok_s ⟨fun h => ?_, fun _ => rfl⟩) (fun g => ?_))))
    · have := (nI_ltI (by omega) (by omega)).mp g
      have := (h i hi).1
      omega
    have g : ga i ≤ ga (i + 1) := Nat.le_of_not_lt (fun h => g ((nI_ltI (by omega) (by omega)).mpr h))
    refine ok_i (fun g2 => ih _ ⟨rfl, all_next.mpr ⟨h1, g, fun h => ?_⟩⟩) (fun g2 => ok_i (fun g3 => ih _ ⟨rfl, all_next.mpr ⟨h1, g, fun _ => (nI_leI (by omega) (by omega)).mp g3⟩⟩) (fun g3 => ok_s ⟨fun h => ?_, fun _ => rfl⟩))
    · have := (nI_leI (by omega) (by omega)).mp g2; omega
    · have g2 : i + 1 < d := Nat.lt_of_not_le (fun h => g2 ((nI_leI (by omega) (by omega)).mpr h))
      exact absurd ((nI_leI (by omega) (by omega)).mpr ((h i hi).2 g2)) g3
  · rintro x ⟨rfl, h1⟩ F
    rw [Td_isInOrder_l2_s]
    unfold Td_isInOrder_n2 Td_isInOrder_n62
    exact ok_t (nI_le (Nat.le_refl d) (by omega)) (ok_s ⟨fun _ => rfl, fun h => absurd h1 h⟩)
theorem kN_le (hT : TT d be ga) : ∀ i, i < 7 → kN be ga i ≤ 20 ^ i := by
  intro i
  induction i with
  | zero => intro _; exact Nat.le_refl 1
  | succ i ih =>
    intro hi
    have h1 := ih (by omega)
    have h2 := (hT.2.1 i (by omega)).1
    rw [kN_s, Nat.pow_succ]
    exact Nat.le_trans (Nat.div_le_self _ _) (Nat.mul_le_mul h1 h2)
theorem kN_small (hT : TT d be ga) {i : Nat} (hi : i < 7) : kN be ga i ≤ 64000000 := by
  have h1 := kN_le hT i hi
  have h2 : 20 ^ i ≤ 20 ^ 6 := Nat.pow_le_pow_right (by omega) (by omega)
  omega
theorem kb_small (hT : TT d be ga) {i : Nat} (hi : i < 6) : kN be ga i * be i ≤ 1280000000 := by
  have h1 := kN_small hT (i := i) (by omega)
  have h2 := (hT.2.1 i hi).1
  have := Nat.mul_le_mul h1 h2
  omega
theorem tN_s (be ga : Nat → Nat) (m : Nat) : tN be ga (m + 1) = tN be ga m + kN be ga (m + 1) := rfl
theorem tN_small (hT : TT d be ga) : ∀ m, m < 6 → tN be ga m ≤ (m + 1) * 64000000 := by
  intro m
  induction m with
  | zero => intro _; show 0 + 1 ≤ _; omega
  | succ m ih =>
    intro hm
    have h1 := ih (by omega)
    have h2 := kN_small hT (i := m + 1) (by omega)
    rw [tN_s]
    omega
theorem lg0 (x : Int64) : lg_cmp x 0 = 0 ↔ x = 0 := lgc_eq x 0
theorem lN0 {a : Nat} (h : a < 2 ^ 63) : lN a = 0 ↔ a = 0 := fb_lN_inj (b := 0) h (by decide)
theorem Td_countLayers_s {tot : Int64} {k : Nat → Int64} (hT : TT d be ga) (hb : TB b be) (hc : TB c ga) (h1 : L1 d be ga) : Ok (Td_countLayers (nI d) tot b c k) (fun z => (L4 d be ga → z.1 = 1 ∧ z.2.1 = lN (tN be ga d) ∧ ∀ j, j < d + 1 → z.2.2 j = lN (kN be ga j)) ∧ (¬ L4 d be ga → z.1 = 0)) := by
  have hd := hT.1
  unfold Td_countLayers
  refine fr3 (fun F x t k => Td_countLayers_l14 (nI d) b c F x t k) (fun i x t k => 1 ≤ i ∧ x = nI i ∧ t = lN (tN be ga (i - 1)) ∧ (∀ j, j < i → k j = lN (kN be ga j)) ∧ ∀ j, j < i - 1 → kN be ga j * be j % ga (j + 1) = 0) (d + 1) (fuel_big (by omega)) ?_ ?_ 1 (by omega) 1 1 _ ⟨Nat.le_refl 1, rfl, rfl, fun j hj => by
    obtain rfl : j = 0 := by omega
    exact pk_uLs, fun j hj => by omega⟩
  · rintro i hi x t k ⟨hi1, rfl, rfl, g1, g2⟩ F ih
    obtain ⟨i, rfl⟩ : ∃ j, i = j + 1 := ⟨i - 1, by omega⟩
    rw [Nat.add_sub_cancel] at g2 ⊢
    have l1 := hT.2.1 i (by omega)
    have l2 := hT.2.1 (i + 1) (by omega)
    have l3 := kb_small hT (i := i) (by omega)
    have l4 := (h1.2 i (by omega)).2
    rw [Td_countLayers_l14_s]
    unfold Td_countLayers_n14 Td_countLayers_n64
    rw [nI_pred, cl_nI (by omega), cl_nI (by omega), g1 i (by omega), hb i (by omega), hc (i + 1) (by omega), nI_l (by omega), nI_l (by omega), lN_mul]
    refine ok_f (nI_nlt (a := d) (b := i + 1) (by omega) (by omega)) (ok_g (inb_nI (by omega) (by omega)) (ok_l (ok_g (inb_nI (by omega) (by omega)) (ok_f (nI_ne0 (by omega) (by omega)) (ok_g (decide_eq_true (fun h => by rw [lN0 (by omega)] at h; omega)) ?_)))))
    rw [pk_lRem (by omega) (by omega) (by omega), pk_lDiv (by omega) (by omega) (by omega), ← kN_s, pk_uLs, lN_add, ← tN_s]
    have hm := Nat.mod_lt (kN be ga i * be i) (show ga (i + 1) > 0 by omega)
    refine ok_i (fun g => ok_l (ih _ _ _ ⟨by omega, nI_1 _, rfl, all_next.mpr ⟨fun j hj => by rw [pk_uLn (by omega)]; exact g1 j hj, pk_uLs⟩, ?_⟩)) (fun g => ok_s ⟨fun h => ?_, fun _ => rfl⟩)
    · rw [lg0, lN0 (by omega)] at g
      rw [Nat.add_sub_cancel]
      exact all_next.mpr ⟨g2, g⟩
    · exact absurd ((lg0 _).mpr ((lN0 (by omega)).mpr (h.1 i (by omega)))) g
  · rintro x t k ⟨hi1, rfl, rfl, g1, g2⟩ F
    have hts := tN_small hT d (by omega)
    rw [Td_countLayers_l14_s]
    unfold Td_countLayers_n14 Td_countLayers_n102 Td_countLayers_n118
    rw [Nat.add_sub_cancel] at g2 ⊢
    refine ok_t (nI_lt (by omega) (by omega)) (ok_i (fun g => ok_g isb_0 (ok_s ⟨fun h => ?_, fun _ => rfl⟩)) (fun g => ok_g isb_1 (ok_s ⟨fun _ => ⟨rfl, rfl, g1⟩, fun h => absurd ⟨g2, ?_⟩ h⟩)))
    · rw [lgc_gt, show (100000 : Int64) = lN 100000 from rfl, pk_lLT (by decide) (by omega)] at g
      have := h.2
      omega
    · rw [lgc_gt, show (100000 : Int64) = lN 100000 from rfl, pk_lLT (by decide) (by omega)] at g
      omega
theorem kt_le (be ga : Nat → Nat) {i m : Nat} (h : i < m + 1) : kN be ga i ≤ tN be ga m := by
  have := fb_sm_part (kN be ga) h
  unfold tN
  omega
theorem par_l {a : Nat} (h : a < 2 ^ 63) : lg_cmp (lN a - lN a / 2 * 2) 0 = 0 ↔ a % 2 = 0 := by
  rw [show (2 : Int64) = lN 2 from rfl, pk_lRem h (by decide) (by decide), lg0, lN0 (by omega)]
theorem ka_small (hT : TT d be ga) (h4 : L4 d be ga) {i : Nat} (hi : i < d + 1) : kN be ga i * aN be ga i ≤ 2000000 := by
  have h1 := kt_le be ga hi
  have h2 := h4.2
  have h3 := (hT.2.1 0 (by omega)).1
  have : aN be ga i ≤ 20 := by unfold aN; omega
  have := Nat.mul_le_mul (show kN be ga i ≤ 100000 by omega) this
  omega
theorem bt_small (hT : TT d be ga) (h4 : L4 d be ga) : be 0 * tN be ga d ≤ 2000000 := by
  have h2 := h4.2
  have h3 := (hT.2.1 0 (by omega)).1
  have := Nat.mul_le_mul h3 h2
  omega
theorem Td_isPaired_s {k : Nat → Int64} (hT : TT d be ga) (hb : TB b be) (hc : TB c ga) (h2 : L2 d be ga) (h4 : L4 d be ga) (hk : ∀ j, j < d + 1 → k j = lN (kN be ga j)) : Ok (Td_isPaired (nI d) (lN (tN be ga d)) b c k) (fun z => (L5 d be ga → z = 1) ∧ (¬ L5 d be ga → z = 0)) := by
  have hd := hT.1
  have h0 := (hT.2.1 0 (by omega)).1
  unfold Td_isPaired
  refine fr1 (fun F x => Td_isPaired_l2 (nI d) (lN (tN be ga d)) b c k F x) (fun i x => x = nI i ∧ ∀ j, j < i → kN be ga j * aN be ga j % 2 = 0) (d + 1) (fuel_big (by omega)) ?_ ?_ 0 (Nat.zero_le _) 0 ⟨rfl, all_none⟩
  · rintro i hi x ⟨rfl, g1⟩ F ih
    have l1 := ka_small hT h4 hi
    rw [Td_isPaired_l2_s]
    unfold Td_isPaired_n2 Td_isPaired_n32
    refine ok_f (nI_nlt (a := d) (b := i) (by omega) (by omega)) (ok_g (inb_nI (by omega) (by omega)) (ok_e (Td_level_s (by omega) hb hc) ?_))
    rw [cl_nI (by omega), hk i hi, lI_nI hT (by omega) (h2 i hi), nI_l (by unfold aN; omega), lN_mul]
    exact ok_i (fun g => ih _ ⟨nI_1 i, all_next.mpr ⟨g1, (par_l (by omega)).mp g⟩⟩) (fun g => ok_s ⟨fun h => absurd ((par_l (by omega)).mpr (h.2 i hi)) g, fun _ => rfl⟩)
  · rintro x ⟨rfl, g1⟩ F
    have l1 := bt_small hT h4
    rw [Td_isPaired_l2_s]
    unfold Td_isPaired_n2 Td_isPaired_n40 Td_isPaired_n66
    rw [show (0 : Int32).toNatClampNeg = 0 from rfl, hb 0 (by omega), nI_l (by omega), lN_mul]
    exact ok_t (nI_lt (by omega) (by omega)) (ok_i (fun g => ok_g isb_1 (ok_s ⟨fun _ => rfl, fun h => absurd ⟨(par_l (by omega)).mp g, g1⟩ h⟩)) (fun g => ok_g isb_0 (ok_s ⟨fun h => absurd ((par_l (by omega)).mpr h.1) g, fun _ => rfl⟩)))
theorem M_areHalves_s {k : Nat → Int64} (hT : TT d be ga) (hb : TB b be) (hc : TB c ga) (h2 : L2 d be ga) (h4 : L4 d be ga) (hk : ∀ j, j < d + 1 → k j = lN (kN be ga j)) : Ok (M_areHalves (nI d) (lN (tN be ga d)) b c k) (fun z => (L5 d be ga → z = 1) ∧ (¬ L5 d be ga → z = 0)) := by
  have hd := hT.1
  have h0 := (hT.2.1 0 (by omega)).1
  have loop : ∀ t : Bool, (t = true ↔ be 0 * tN be ga d % 2 = 0) → Ok (M_areHalves_l29 (nI d) b c k FUEL (bI t) 0) (fun z => (L5 d be ga → z = 1) ∧ (¬ L5 d be ga → z = 0)) := by
    intro t ht
    refine fr2 (fun F y x => M_areHalves_l29 (nI d) b c k F y x) (fun i y x => x = nI i ∧ ∃ s : Bool, y = bI s ∧ (s = true ↔ be 0 * tN be ga d % 2 = 0 ∧ ∀ j, j < i → kN be ga j * aN be ga j % 2 = 0)) (d + 1) (fuel_big (by omega)) ?_ ?_ 0 (Nat.zero_le _) (bI t) 0 ⟨rfl, t, rfl, fun h => ⟨ht.mp h, all_none⟩, fun h => ht.mpr h.1⟩
    · rintro i hi y x ⟨rfl, s, rfl, g1⟩ F ih
      have l1 := ka_small hT h4 hi
      rw [M_areHalves_l29_s]
      unfold M_areHalves_n29 M_areHalves_n67 M_areHalves_n68
      refine ok_f (nI_nlt (a := d) (b := i) (by omega) (by omega)) (ok_i (fun g => ih _ _ ⟨nI_1 i, false, rfl, fun h => absurd h (by decide), fun h => ?_⟩) (fun g => ok_g (inb_nI (by omega) (by omega)) (ok_e (M_a_s (by omega) hb hc) ?_)))
      · have := g1.mpr ⟨h.1, (all_next.mp h.2).1⟩
        rw [bI_eq0.mp g] at this; exact this
      · have hs : s = true := by cases s; exact absurd rfl g; rfl
        rw [cl_nI (by omega), hk i hi, lI_nI hT (by omega) (h2 i hi), nI_l (by unfold aN; omega), lN_mul]
        exact ok_i (fun g2 => ih _ _ ⟨nI_1 i, true, rfl, fun _ => ⟨(g1.mp hs).1, all_next.mpr ⟨(g1.mp hs).2, (par_l (by omega)).mp g2⟩⟩, fun _ => rfl⟩) (fun g2 => ih _ _ ⟨nI_1 i, false, rfl, fun h => absurd h (by decide), fun h => absurd ((par_l (by omega)).mpr (all_next.mp h.2).2) g2⟩)
    · rintro y x ⟨rfl, s, rfl, g1⟩ F
      rw [M_areHalves_l29_s]
      unfold M_areHalves_n29 M_areHalves_n75
      refine ok_t (nI_lt (by omega) (by omega)) (ok_g (isb_bI s) (ok_s ⟨fun h => ?_, fun h => ?_⟩))
      · rw [g1.mpr h]; rfl
      · cases s
        · rfl
        · exact absurd (g1.mp rfl) h
  unfold M_areHalves M_areHalves_n26
  have l1 := bt_small hT h4
  rw [show (0 : Int32).toNatClampNeg = 0 from rfl, hb 0 (by omega), nI_l (by omega), lN_mul]
  exact ok_i (fun g => loop true ⟨fun _ => (par_l (by omega)).mp g, fun _ => rfl⟩) (fun g => loop false ⟨fun h => absurd h (by decide), fun h => absurd ((par_l (by omega)).mpr h) g⟩)
/-! the model's first laws -/
theorem M_layers_s {tot : Int64} {k : Nat → Int64} (hT : TT d be ga) (hb : TB b be) (hc : TB c ga) (h1 : L1 d be ga) : Ok (M_firstLaws_l209 (nI d) b c FUEL 1 1 (vp_updL k 0 1)) (fun z => (L4 d be ga → z.1 = 0 ∧ z.2.1 = lN (tN be ga d) ∧ ∀ j, j < d + 1 → z.2.2 j = lN (kN be ga j)) ∧ (¬ L4 d be ga → z.1 = 4)) := by
  have hd := hT.1
  refine fr3 (fun F x t k => M_firstLaws_l209 (nI d) b c F x t k) (fun i x t k => 1 ≤ i ∧ x = nI i ∧ t = lN (tN be ga (i - 1)) ∧ (∀ j, j < i → k j = lN (kN be ga j)) ∧ ∀ j, j < i - 1 → kN be ga j * be j % ga (j + 1) = 0) (d + 1) (fuel_big (by omega)) ?_ ?_ 1 (by omega) 1 1 _ ⟨Nat.le_refl 1, rfl, rfl, fun j hj => by
    obtain rfl : j = 0 := by omega
    exact pk_uLs, fun j hj => by omega⟩
  · rintro i hi x t k ⟨hi1, rfl, rfl, g1, g2⟩ F ih
    obtain ⟨i, rfl⟩ : ∃ j, i = j + 1 := ⟨i - 1, by omega⟩
    rw [Nat.add_sub_cancel] at g2 ⊢
    have l1 := hT.2.1 i (by omega)
    have l2 := hT.2.1 (i + 1) (by omega)
    have l3 := kb_small hT (i := i) (by omega)
    have l4 := (h1.2 i (by omega)).2
    rw [M_firstLaws_l209_s]
    unfold M_firstLaws_n209 M_firstLaws_n256
    rw [nI_pred, cl_nI (by omega), cl_nI (by omega), g1 i (by omega), hb i (by omega), hc (i + 1) (by omega), nI_l (by omega), nI_l (by omega), lN_mul]
    refine ok_f (nI_nlt (a := d) (b := i + 1) (by omega) (by omega)) (ok_g (inb_nI (by omega) (by omega)) (ok_l (ok_g (inb_nI (by omega) (by omega)) (ok_g (decide_eq_true (fun h => by rw [lN0 (by omega)] at h; omega)) ?_))))
    rw [pk_lRem (by omega) (by omega) (by omega), pk_lDiv (by omega) (by omega) (by omega), ← kN_s, pk_uLs, lN_add, ← tN_s]
    have hm := Nat.mod_lt (kN be ga i * be i) (show ga (i + 1) > 0 by omega)
    refine ok_i (fun g => ok_l (ih _ _ _ ⟨by omega, nI_1 _, rfl, all_next.mpr ⟨fun j hj => by rw [pk_uLn (by omega)]; exact g1 j hj, pk_uLs⟩, ?_⟩)) (fun g => ok_s ⟨fun h => ?_, fun _ => rfl⟩)
    · rw [lg0, lN0 (by omega)] at g
      rw [Nat.add_sub_cancel]
      exact all_next.mpr ⟨g2, g⟩
    · exact absurd ((lg0 _).mpr ((lN0 (by omega)).mpr (h.1 i (by omega)))) g
  · rintro x t k ⟨hi1, rfl, rfl, g1, g2⟩ F
    have hts := tN_small hT d (by omega)
    rw [M_firstLaws_l209_s]
    unfold M_firstLaws_n209 M_firstLaws_n298 M_firstLaws_n314
    rw [Nat.add_sub_cancel] at g2 ⊢
    refine ok_t (nI_lt (by omega) (by omega)) (ok_i (fun g => ok_s ⟨fun _ => ⟨rfl, rfl, g1⟩, fun h => absurd ⟨g2, ?_⟩ h⟩) (fun g => ok_s ⟨fun h => absurd ?_ g, fun _ => rfl⟩))
    · rw [lgc_le, show (100000 : Int64) = lN 100000 from rfl, pk_lLE (by omega) (by decide)]
      exact h.2
    · rw [lgc_le, show (100000 : Int64) = lN 100000 from rfl, pk_lLE (by omega) (by decide)] at g
      exact g
end LAWS
