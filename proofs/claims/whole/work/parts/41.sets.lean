/-! sets, in order -/
def nxL (s : Int64) : Int64 := (Mk_nextSet s).getD 0
theorem nx_s (s : Int64) : Mk_nextSet s = some (nxL s) := rfl
def nxM (s : Int64) : Int64 := (((s ^^^ (s + (s &&& (-s)))) / (s &&& (-s))) >>> ((2 : Int32).toInt64 &&& 63)) ||| (s + (s &&& (-s)))
def chk (hi : Int64) : Nat → Int64 → Bool
  | 0, s => !decide (s < hi)
  | n + 1, s => decide (s < hi) && (nzL (s &&& (-s)) && (decide (nxL s = nxM s) && chk hi n (nxL s)))
def hiL (a : Nat) : Int64 := (1 : Int64) <<< ((nI a).toInt64 &&& 63)
def fsL (b : Nat) : Int64 := ((1 : Int64) <<< ((nI b).toInt64 &&& 63)) - 1
def szc (a b : Nat) : Bool := match Mk_countSets (nI a) (nI b), M_choose (nI a) (nI b) with
  | some v, some w => (decide (v = lN v.toInt.toNat) && (decide (w.toInt64 = v) && (decide (v.toInt.toNat ≤ 32) && chk (hiL a) v.toInt.toNat (fsL b)))) || (decide (32 < v.toInt.toNat) && (decide (v = lN v.toInt.toNat) && decide (w = 33)))
  | _, _ => false
theorem szc_all : ∀ a, a < 33 → ∀ b, b < 33 → (1 ≤ b ∧ b < a) → szc a b = true := by decide +kernel
def itL (s : Int64) : Nat → Int64
  | 0 => s
  | i + 1 => nxL (itL s i)
theorem itL_front (s : Int64) : ∀ i, itL s (i + 1) = itL (nxL s) i := by
  intro i
  induction i with
  | zero => rfl
  | succ i ih => show nxL (itL s (i + 1)) = nxL (itL (nxL s) i); rw [ih]
theorem chk_is {hi : Int64} : ∀ {N : Nat} {s : Int64}, chk hi N s = true → (∀ i, i < N → itL s i < hi ∧ nzL (itL s i &&& (-itL s i)) = true ∧ nxL (itL s i) = nxM (itL s i)) ∧ ¬ itL s N < hi := by
  intro N
  induction N with
  | zero =>
    intro s h
    refine ⟨all_none, ?_⟩
    have h : (!decide (s < hi)) = true := h
    rw [Bool.not_eq_true', decide_eq_false_iff_not] at h
    exact h
  | succ N ih =>
    intro s h
    have h : (decide (s < hi) && (nzL (s &&& (-s)) && (decide (nxL s = nxM s) && chk hi N (nxL s)))) = true := h
    rw [Bool.and_eq_true, Bool.and_eq_true, Bool.and_eq_true, decide_eq_true_iff, decide_eq_true_iff] at h
    obtain ⟨h1, h2, h3, h4⟩ := h
    obtain ⟨g1, g2⟩ := ih h4
    refine ⟨fun i hi2 => ?_, by rw [itL_front]; exact g2⟩
    cases i with
    | zero => exact ⟨h1, h2, h3⟩
    | succ i => rw [itL_front]; exact g1 i (by omega)
theorem Mk_listSets_s {N b : Nat} {st : Nat → Int32} (hN : N ≤ 32) : Ok (Mk_listSets (nI N) (nI b) st) (fun z => ∀ i, i < N → z i = (itL (fsL b) i).toInt32) := by
  unfold Mk_listSets
  refine ok_l ?_
  refine fr3 (fun F x y z => Mk_listSets_l9 F (nI N) x y z) (fun i x y z => x = itL (fsL b) i ∧ y = nI i ∧ ∀ j, j < i → z j = (itL (fsL b) j).toInt32) N (fuel_big (by omega)) ?_ ?_ 0 (Nat.zero_le _) _ 0 st ⟨rfl, rfl, all_none⟩
  · rintro i hi x y z ⟨rfl, rfl, h1⟩ F ih
    rw [Mk_listSets_l9_s]
    unfold Mk_listSets_n9
    refine ok_f (nI_ge hi (by omega)) (ok_g (inb_nI (by omega) (by omega)) (ok_e (nx_s _) (ih _ _ _ ⟨rfl, nI_1 i, ?_⟩)))
    rw [cl_nI (by omega)]
    exact all_next.mpr ⟨fun j hj => by rw [updN (by omega)]; exact h1 j hj, updS⟩
  · rintro x y z ⟨rfl, rfl, h1⟩ F
    rw [Mk_listSets_l9_s]
    unfold Mk_listSets_n9 Mk_listSets_n35
    exact ok_t (nI_le (Nat.le_refl N) (by omega)) (ok_s h1)
theorem M_findSets_s {N a b : Nat} {st : Nat → Int32} (hN : N ≤ 32) (hc : chk (hiL a) N (fsL b) = true) : Ok (M_findSets (nI a) (nI b) st) (fun z => ∀ i, i < N → z.2 i = (itL (fsL b) i).toInt32) := by
  obtain ⟨c1, c2⟩ := chk_is hc
  unfold M_findSets
  refine ok_l ?_
  refine fr3 (fun F y x z => M_findSets_l9 F (nI a) y x z) (fun i y x z => y = nI i ∧ x = itL (fsL b) i ∧ ∀ j, j < i → z j = (itL (fsL b) j).toInt32) N (fuel_big (by omega)) ?_ ?_ 0 (Nat.zero_le _) 0 _ st ⟨rfl, rfl, all_none⟩
  · rintro i hi y x z ⟨rfl, rfl, h1⟩ F ih
    obtain ⟨g1, g2, g3⟩ := c1 i hi
    rw [M_findSets_l9_s]
    unfold M_findSets_n9
    refine ok_f (fun h => ?_) (ok_f (nI_nlt (b := i) (a := 32) (by omega) (by decide)) (ok_g (inb_nI (by omega) (by omega)) (ok_g g2 (ok_l (ih _ _ _ ⟨nI_1 i, ?_, ?_⟩)))))
    · rw [lgc_ge, fa_le64] at h
      have g1 : itL (fsL b) i < (1 : Int64) <<< ((nI a).toInt64 &&& 63) := g1
      rw [fa_lt64] at g1
      omega
    · exact g3.symm
    · rw [cl_nI (by omega)]
      exact all_next.mpr ⟨fun j hj => by rw [updN (by omega)]; exact h1 j hj, updS⟩
  · rintro y x z ⟨rfl, rfl, h1⟩ F
    rw [M_findSets_l9_s]
    unfold M_findSets_n9 M_findSets_n69
    refine ok_t ?_ (ok_s h1)
    rw [lgc_ge, fa_le64]
    have g1 : ¬ itL (fsL b) N < (1 : Int64) <<< ((nI a).toInt64 &&& 63) := c2
    rw [fa_lt64] at g1
    omega
theorem M_ones_s (x : Int32) : M_ones x = some (nI (cnt x)) := by
  have key : ∀ i, i < 32 → (x >>> (nI i &&& 31)) &&& 1 = bI (bt x i) := by
    intro q hq
    apply b_ext
    intro i hi
    rw [b_and, b_sshr q hq x hi]
    have h1 : ∀ i, i < 32 → bt (1 : Int32) i = decide (i = 0) := by decide +kernel
    have h0 : ∀ i, i < 32 → bt (0 : Int32) i = false := by decide +kernel
    rw [h1 i hi]
    by_cases e : i = 0
    · subst e
      rw [if_pos (by omega), Nat.add_zero]
      cases bt x q <;> decide
    · rw [decide_eq_false e, Bool.and_false]
      cases bt x q
      · exact (h0 i hi).symm
      · show false = bt 1 i
        rw [h1 i hi, decide_eq_false e]
  unfold M_ones
  apply ok_eq
  refine fr2 (fun F a b => M_ones_l4 F x a b) (fun i a b => a = nI (fb_ct (bt x) i) ∧ b = nI i) 32 (fuel_big (by omega)) ?_ ?_ 0 (Nat.zero_le _) 0 0 ⟨rfl, rfl⟩
  · rintro i hi a b ⟨rfl, rfl⟩ F ih
    rw [M_ones_l4_s]
    unfold M_ones_n4
    rw [key i hi]
    refine ok_f (nI_ge hi (by decide)) (ok_l (ih _ _ ⟨?_, nI_1 i⟩))
    rw [fb_ct_succ]
    cases bt x i
    · show nI _ + (0 : Int32) = _
      rw [show (0 : Int32) = nI 0 from rfl, nI_add]; rfl
    · show nI _ + (1 : Int32) = _
      rw [nI_1]; rfl
  · rintro a b ⟨rfl, rfl⟩ F
    rw [M_ones_l4_s]
    unfold M_ones_n4 M_ones_n24
    exact ok_t (by decide) (ok_s rfl)
theorem M_choose_big {a b : Nat} (ha : 33 ≤ a) (ha2 : a < 2 ^ 31) (hb : 1 ≤ b) (hba : b < a) : M_choose (nI a) (nI b) = some 33 := by
  have fin : ∀ v : Nat, 32 < v → v < 2 ^ 63 → Ok (M_choose_n57 (lN v)) (fun r => r = 33) := by
    intro v h1 h2
    unfold M_choose_n57 M_choose_n72
    exact ok_f (fun c => by rw [lg32 h2] at c; omega) (ok_s rfl)
  have main : ∀ f : Nat, 1 ≤ f → 2 * f ≤ a → M_choose_n16 (nI a) 1 (nI f) = some 33 := by
    intro f hf1 hf2
    apply ok_eq
    unfold M_choose_n16
    obtain ⟨G, hG⟩ : ∃ G, FUEL = G + 1 + 1 + 1 := ⟨4294967293, rfl⟩
    have gt64 : ∀ v : Nat, v < 2 ^ 63 → (0 < lg_cmp (lN v) 64 ↔ 64 < v) := fun v hv => by
      rw [lgc_gt, show (64 : Int64) = lN 64 from rfl, pk_lLT (by decide) hv]
    have val : ∀ v k : Nat, v ≤ 64 → 1 ≤ k → k ≤ f → lN v * ((nI a - nI f) + nI k).toInt64 / (nI k).toInt64 = lN (v * (a - f + k) / k) := by
      intro v k hv hk1 hk2
      rw [pk_sub (by omega), nI_add, nI_l (by omega), nI_l (by omega), lN_mul, pk_lDiv ?_ (by omega) (by omega)]
      have : v * (a - f + k) ≤ 64 * (a - f + k) := Nat.mul_le_mul_right _ hv
      omega
    rw [hG, M_choose_l21_s]
    unfold M_choose_n21
    refine ok_f (nI_nlt (a := f) (b := 1) hf1 (by omega)) (ok_f (by decide) (ok_g (by decide) (ok_l ?_)))
    have v1 : (1 : Int64) * ((nI a - nI f) + (1 : Int32)).toInt64 / (1 : Int32).toInt64 = lN (a - f + 1) := by
      have := val 1 1 (by omega) (by omega) (by omega)
      rw [Nat.one_mul, Nat.div_one] at this
      exact this
    rw [v1]
    show Ok (M_choose_l21 (G + 1 + 1) (nI a) (lN (a - f + 1)) (nI f) (nI 2)) _
    rw [M_choose_l21_s]
    unfold M_choose_n21
    refine ok_i (fun c1 => fin _ (by have := (nI_ltI (by omega) (by omega)).mp c1; omega) (by omega)) (fun c1 => ok_i (fun c2 => fin _ (by rw [gt64 _ (by omega)] at c2; omega) (by omega)) (fun c => ok_g (by decide) (ok_l ?_)))
    rw [gt64 _ (by omega)] at c
    have hf3 : 2 ≤ f := Nat.le_of_not_lt (fun h => c1 ((nI_ltI (by omega) (by omega)).mpr h))
    rw [val (a - f + 1) 2 (by omega) (by omega) (by omega)]
    have big : 64 < (a - f + 1) * (a - f + 2) / 2 ∧ (a - f + 1) * (a - f + 2) / 2 < 2 ^ 63 := by
      have l1 : 18 * 19 ≤ (a - f + 1) * (a - f + 2) := Nat.mul_le_mul (by omega) (by omega)
      have l2 : (a - f + 1) * (a - f + 2) ≤ 64 * 65 := Nat.mul_le_mul (by omega) (by omega)
      omega
    show Ok (M_choose_l21 (G + 1) (nI a) (lN ((a - f + 1) * (a - f + 2) / 2)) (nI f) (nI 3)) _
    rw [M_choose_l21_s]
    unfold M_choose_n21
    refine ok_i (fun _ => fin _ (by omega) (by omega)) (fun _ => ok_t ((gt64 _ big.2).mpr big.1) (fin _ (by omega) (by omega)))
  unfold M_choose
  rw [pk_sub (by omega)]
  by_cases c : a - b ≤ b
  · rw [if_pos ((nI_leI (by omega) (by omega)).mpr c)]
    exact main (a - b) (by omega) (by omega)
  · rw [if_neg (fun h => c ((nI_leI (by omega) (by omega)).mp h))]
    exact main b hb (by omega)
/-- sizes of makings 3 and 4: as many as may be, or both alike -/
theorem sz_sets {a b : Nat} (ha2 : a < 2 ^ 31) (hb : 1 ≤ b) (hba : b < a) : (∃ v w, Mk_countSets (nI a) (nI b) = some (lN v) ∧ M_choose (nI a) (nI b) = some (nI w) ∧ 32 < v ∧ v < 2 ^ 63 ∧ 32 < w ∧ w < 64) ∨ ∃ N, N ≤ 32 ∧ Mk_countSets (nI a) (nI b) = some (lN N) ∧ M_choose (nI a) (nI b) = some (nI N) ∧ chk (hiL a) N (fsL b) = true := by
  rcases Nat.lt_or_ge a 33 with g | g
  · have h := szc_all a g b (by omega) ⟨hb, hba⟩
    unfold szc at h
    cases e1 : Mk_countSets (nI a) (nI b) with
    | none => rw [e1] at h; cases h
    | some v =>
      cases e2 : M_choose (nI a) (nI b) with
      | none => rw [e1, e2] at h; cases h
      | some w =>
        rw [e1, e2] at h
        have hv63 : v.toInt.toNat < 2 ^ 63 := by
          have := (fb_rngL v).2
          omega
        have h : ((decide (v = lN v.toInt.toNat) && (decide (w.toInt64 = v) && (decide (v.toInt.toNat ≤ 32) && chk (hiL a) v.toInt.toNat (fsL b)))) || (decide (32 < v.toInt.toNat) && (decide (v = lN v.toInt.toNat) && decide (w = 33)))) = true := h
        rw [Bool.or_eq_true, Bool.and_eq_true, Bool.and_eq_true, Bool.and_eq_true, Bool.and_eq_true, Bool.and_eq_true, decide_eq_true_iff, decide_eq_true_iff, decide_eq_true_iff, decide_eq_true_iff, decide_eq_true_iff] at h
        rcases h with ⟨h1, h2, h3, h4⟩ | ⟨h1, h2, h3⟩
        · refine Or.inr ⟨v.toInt.toNat, h3, by rw [← h1], ?_, h4⟩
          have : w = nI v.toInt.toNat := by
            apply (fa_wide_eq _ _).mp
            rw [h2, nI_l (by omega)]; exact h1
          rw [this]
        · exact Or.inl ⟨v.toInt.toNat, 33, by rw [← h2], by rw [h3]; rfl, h1, hv63, by omega, by omega⟩
  · refine Or.inl ⟨a, 33, ?_, M_choose_big g ha2 hb hba, by omega, by omega, by omega, by omega⟩
    unfold Mk_countSets
    rw [if_neg (show ¬ nI a ≤ (32 : Int32) from fun h => by have := (nI_leI (b := 32) ha2 (by decide)).mp h; omega), nI_l ha2]
theorem b_and_comm (x y : Int32) : x &&& y = y &&& x := b_ext (fun i _ => by rw [b_and, b_and, Bool.and_comm])
theorem build_34 (k x2 x3 : Int32) (hk : k = 3 ∨ k = 4) : (∃ r, BRef k x2 x3 r) ∨ ∃ N A, BOk k x2 x3 N A := by
  have k0 : ¬ k = 0 := by rcases hk with rfl | rfl <;> decide
  have k1 : ¬ k = 1 := by rcases hk with rfl | rfl <;> decide
  have k2 : ¬ k = 2 := by rcases hk with rfl | rfl <;> decide
  have may : ∀ r, M_may_n78 x2 x3 = some r → M_may k x2 x3 = some r := by
    intro r h
    unfold M_may
    rw [if_neg k0, if_neg k1, if_neg k2]
    rcases hk with rfl | rfl
    · rw [if_pos rfl]; exact h
    · rw [if_neg (by decide), if_pos rfl]; exact h
  by_cases c : x3 < 1
  · refine Or.inl ⟨-1, B_no (may 0 ?_)⟩
    unfold M_may_n78 M_may_n92 M_may_n93
    rw [if_pos c]; rfl
  by_cases c2 : x2 ≤ x3
  · refine Or.inl ⟨-1, B_no (may 0 ?_)⟩
    unfold M_may_n78 M_may_n92 M_may_n93
    rw [if_neg c, if_pos c2]; rfl
  have hm : M_may k x2 x3 = some 1 := may 1 (by
    unfold M_may_n78 M_may_n93
    rw [if_neg c, if_neg c2]; rfl)
  obtain ⟨b, hb, hb1, rfl⟩ := lt1_nI c
  obtain ⟨a, ha, rfl⟩ := nI_of (x := x2) (fun g => c2 (by
    rw [fa_lt] at g
    rw [fa_le, nI_toInt hb]
    have z : (0 : Int32).toInt = 0 := rfl
    omega))
  have hba : b < a := Nat.lt_of_not_le (fun h => c2 ((nI_leI ha hb).mpr h))
  have s1 : ∀ v, Mk_countSets (nI a) (nI b) = some v → Mk_size k (nI a) (nI b) = some v := by
    intro v h
    unfold Mk_size Mk_size_n38
    rw [if_neg k2]
    rcases hk with rfl | rfl
    · rw [if_pos rfl, bnd_at h]
    · rw [if_neg (by decide), if_pos rfl, bnd_at h]
  have s2 : ∀ w, w < 64 → M_choose (nI a) (nI b) = some (nI w) → M_sizeOf k (nI a) (nI b) = some (lN w) := by
    intro w hw h
    unfold M_sizeOf M_sizeOf_n43
    rw [if_pos (by rcases hk with rfl | rfl <;> decide), if_neg k2, if_neg (by rcases hk with rfl | rfl <;> decide), bnd_at h, nI_l (by omega)]
  rcases sz_sets ha hb1 hba with ⟨v, w, e1, e2, h1, h2, h3, h4⟩ | ⟨N, hN, e1, e2, hc⟩
  · exact Or.inl ⟨-2, B_full hm (s1 _ e1) (s2 w h4 e2) h1 h2 h3 (by omega)⟩
  obtain ⟨S, hS⟩ : ∃ S : Nat → Int32, ∀ i, S i = (itL (fsL b) i).toInt32 := ⟨fun i => (itL (fsL b) i).toInt32, fun _ => rfl⟩
  rcases hk with rfl | rfl
  · refine Or.inr ⟨N, _, B_ok (t := fun p q => decide (nI (cnt (S p &&& S q)) = nI b - 1)) hm (s1 _ e1) (s2 N (by omega) e2) hN (fun mn st hm2 => ?_) (fun st => ?_)⟩
    · unfold Mk_lay Mk_lay_n23 Mk_lay_n51
      rw [if_neg (by decide), if_pos rfl]
      refine ok_b (Mk_listSets_s hN) (fun z hz => ok_b (Mk_layPairs_s (t := fun p q => decide (nI (cnt (S p &&& S q)) = nI b - 1)) hN hm2 (fun p q hpq hq => ?_)) (fun m hm3 => ok_s hm3))
      unfold Mk_isRoad Mk_isRoad_n95
      rw [if_neg (by decide), if_neg (by decide), if_neg (by decide), if_pos rfl, gd_t (inb_nI (by omega) (by omega)), gd_t (inb_nI (by omega) (by omega)), cl_nI (by omega), cl_nI (by omega), hz p (by omega), hz q hq, ← hS, ← hS, bnd_at (JI_bitCount_s _)]
      by_cases e : nI (cnt (S p &&& S q)) = nI b - 1
      · rw [if_pos e, decide_eq_true e]; rfl
      · rw [if_neg e, decide_eq_false e]; rfl
    · rw [if_pos (Or.inl rfl)]
      refine ok_b (M_findSets_s hN hc) (fun z hz => ok_s (fun p q hq hp => ?_))
      unfold M_isMade M_isMade_n114
      rw [if_neg (by decide), if_neg (by decide), if_neg (by decide), if_pos rfl, gd_t (inb_nI (by omega) (by omega)), gd_t (inb_nI (by omega) (by omega)), cl_nI (by omega), cl_nI (by omega), hz p hp, hz q (by omega), ← hS, ← hS, bnd_at (M_ones_s _), b_and_comm]
      by_cases e : nI (cnt (S q &&& S p)) = nI b - 1
      · rw [if_pos e, decide_eq_true e]; rfl
      · rw [if_neg e, decide_eq_false e]; rfl
  · refine Or.inr ⟨N, _, B_ok (t := fun p q => decide (S p &&& S q = 0)) hm (s1 _ e1) (s2 N (by omega) e2) hN (fun mn st hm2 => ?_) (fun st => ?_)⟩
    · unfold Mk_lay Mk_lay_n23 Mk_lay_n51
      rw [if_neg (by decide), if_neg (by decide), if_pos rfl]
      refine ok_b (Mk_listSets_s hN) (fun z hz => ok_b (Mk_layPairs_s (t := fun p q => decide (S p &&& S q = 0)) hN hm2 (fun p q hpq hq => ?_)) (fun m hm3 => ok_s hm3))
      unfold Mk_isRoad Mk_isRoad_n117
      rw [if_neg (by decide), if_neg (by decide), if_neg (by decide), if_neg (by decide), if_pos rfl, gd_t (inb_nI (by omega) (by omega)), gd_t (inb_nI (by omega) (by omega)), cl_nI (by omega), cl_nI (by omega), hz p (by omega), hz q hq, ← hS, ← hS]
      by_cases e : S p &&& S q = 0
      · rw [if_pos e, decide_eq_true e]; rfl
      · rw [if_neg e, decide_eq_false e]; rfl
    · rw [if_pos (Or.inr rfl)]
      refine ok_b (M_findSets_s hN hc) (fun z hz => ok_s (fun p q hq hp => ?_))
      unfold M_isMade M_isMade_n138
      rw [if_neg (by decide), if_neg (by decide), if_neg (by decide), if_neg (by decide), if_pos rfl, gd_t (inb_nI (by omega) (by omega)), gd_t (inb_nI (by omega) (by omega)), cl_nI (by omega), cl_nI (by omega), hz p hp, hz q (by omega), ← hS, ← hS, b_and_comm]
      by_cases e : S q &&& S p = 0
      · rw [if_pos e, decide_eq_true e]; rfl
      · rw [if_neg e, decide_eq_false e]; rfl
theorem build_any (x1 x2 x3 : Int32) : (∃ r, BRef x1 x2 x3 r) ∨ ∃ N A, BOk x1 x2 x3 N A := by
  by_cases c0 : x1 = 0
  · subst c0; exact build_0 x2 x3
  by_cases c1 : x1 = 1
  · subst c1; exact build_1 x2 x3
  by_cases c2 : x1 = 2
  · subst c2; exact build_2 x2 x3
  by_cases c3 : x1 = 3
  · exact build_34 x1 x2 x3 (Or.inl c3)
  by_cases c4 : x1 = 4
  · exact build_34 x1 x2 x3 (Or.inr c4)
  by_cases c5 : x1 = 5
  · subst c5; exact build_5 x2 x3
  refine Or.inl ⟨-1, B_no ?_⟩
  unfold M_may
  rw [if_neg c0, if_neg c1, if_neg c2, if_neg c3, if_neg c4, if_neg c5]
