/-! words -/
theorem nzt {a : Nat} (h : 0 < a) (h2 : a < 2 ^ 31) : nz (nI a) = true := decide_eq_true (nI_ne0 h h2)
theorem lmulN (v a : Nat) : lN v * lN a = lN (v * a) := (Int64.ofNat_mul v a).symm
theorem Mk_countWords_s {a b : Nat} (ha : 2 ≤ a) (ha2 : a < 2 ^ 31) (hb : b < 2 ^ 31) : Ok (Mk_countWords (nI a) (nI b)) (fun z => ∃ v, z = lN v ∧ v < 2 ^ 63 ∧ (a ^ b ≤ 32 → v = a ^ b) ∧ (32 < a ^ b → 32 < v)) := by
  unfold Mk_countWords
  refine fr2 (fun F x y => Mk_countWords_l5 F (nI a) (nI b) x y) (fun i x y => y = nI i ∧ x = lN (a ^ i) ∧ a ^ i ≤ 32 * a) b (fuel_big (by omega)) ?_ ?_ 0 (Nat.zero_le _) 1 0 ⟨rfl, rfl, by rw [Nat.pow_zero]; omega⟩
  · rintro i hi x y ⟨rfl, rfl, h1⟩ F ih
    rw [Mk_countWords_l5_s]
    unfold Mk_countWords_n5 Mk_countWords_n30
    refine ok_f (nI_ge hi (by omega)) (ok_i (fun c => ok_s ⟨_, rfl, by omega, fun h => ?_, fun _ => ?_⟩) (fun c => ?_))
    · rw [lgc_gt, show (32 : Int64) = lN 32 from rfl, pk_lLT (by decide) (by omega)] at c
      have := Nat.pow_le_pow_right (n := a) (by omega) (Nat.le_of_lt hi)
      omega
    · rw [lgc_gt, show (32 : Int64) = lN 32 from rfl, pk_lLT (by decide) (by omega)] at c
      exact c
    · rw [lgc_gt, show (32 : Int64) = lN 32 from rfl, pk_lLT (by decide) (by omega)] at c
      rw [nI_l ha2, lmulN, ← Nat.pow_succ]
      refine ih _ _ ⟨nI_1 i, rfl, ?_⟩
      rw [Nat.pow_succ]
      exact Nat.mul_le_mul_right a (by omega)
  · rintro x y ⟨rfl, rfl, h1⟩ F
    rw [Mk_countWords_l5_s]
    unfold Mk_countWords_n5 Mk_countWords_n30
    exact ok_t (nI_le (Nat.le_refl b) (by omega)) (ok_s ⟨_, rfl, by omega, fun _ => rfl, fun h => h⟩)
theorem M_power2_s {a b : Nat} (ha : 2 ≤ a) (ha2 : a < 2 ^ 31) (hb : b < 2 ^ 31) : Ok (M_power2 (nI a) (nI b)) (fun z => ∃ v, z = nI v ∧ v ≤ 33 ∧ (a ^ b ≤ 32 → v = a ^ b) ∧ (32 < a ^ b → 32 < v)) := by
  have fin : ∀ w, w < 2 ^ 63 → (a ^ b ≤ 32 → w = a ^ b) → (32 < a ^ b → 32 < w) → Ok (M_power2_n30 (lN w)) (fun z => ∃ v, z = nI v ∧ v ≤ 33 ∧ (a ^ b ≤ 32 → v = a ^ b) ∧ (32 < a ^ b → 32 < v)) := by
    intro w hw h1 h2
    unfold M_power2_n30 M_power2_n45
    refine ok_i (fun c => ?_) (fun c => ok_s ⟨33, rfl, by omega, fun h => ?_, fun _ => by omega⟩)
    · rw [lg32 hw] at c
      rw [lI_small w (by omega)]
      exact ok_s ⟨w, rfl, by omega, h1, h2⟩
    · rw [lg32 hw] at c
      have := h1 h
      omega
  unfold M_power2
  refine fr2 (fun F x y => M_power2_l5 F (nI a) (nI b) x y) (fun i x y => y = nI i ∧ x = lN (a ^ i) ∧ a ^ i ≤ 32 * a) b (fuel_big (by omega)) ?_ ?_ 0 (Nat.zero_le _) 1 0 ⟨rfl, rfl, by rw [Nat.pow_zero]; omega⟩
  · rintro i hi x y ⟨rfl, rfl, h1⟩ F ih
    rw [M_power2_l5_s]
    unfold M_power2_n5
    refine ok_f (nI_ge hi (by omega)) (ok_i (fun c => ?_) (fun c => ?_))
    · rw [lgc_gt, show (32 : Int64) = lN 32 from rfl, pk_lLT (by decide) (by omega)] at c
      have := Nat.pow_le_pow_right (n := a) (by omega) (Nat.le_of_lt hi)
      exact fin _ (by omega) (fun h => by omega) (fun _ => c)
    · rw [lgc_gt, show (32 : Int64) = lN 32 from rfl, pk_lLT (by decide) (by omega)] at c
      rw [nI_l ha2, lmulN, ← Nat.pow_succ]
      refine ih _ _ ⟨nI_1 i, rfl, ?_⟩
      rw [Nat.pow_succ]
      exact Nat.mul_le_mul_right a (by omega)
  · rintro x y ⟨rfl, rfl, h1⟩ F
    rw [M_power2_l5_s]
    unfold M_power2_n5
    exact ok_t (nI_le (Nat.le_refl b) (by omega)) (fin _ (by omega) (fun _ => rfl) (fun h => h))
def ulN (a p q b : Nat) : Nat := fb_ct (fun k => !decide (p / a ^ k % a = q / a ^ k % a)) b
theorem ulN_le (a p q b : Nat) : ulN a p q b ≤ b := fb_ct_le _ _
theorem div_pow (a p i : Nat) : p / a ^ i / a = p / a ^ (i + 1) := by rw [Nat.div_div_eq_div_mul, Nat.pow_succ]
theorem ulN_yes {a p q i : Nat} (h : p / a ^ i % a = q / a ^ i % a) : ulN a p q (i + 1) = ulN a p q i := by
  unfold ulN
  rw [fb_ct_succ, decide_eq_true h]; rfl
theorem ulN_no {a p q i : Nat} (h : ¬ p / a ^ i % a = q / a ^ i % a) : ulN a p q (i + 1) = ulN a p q i + 1 := by
  unfold ulN
  rw [fb_ct_succ, decide_eq_false h]; rfl
theorem M_unlikeLetters_s {a b p q : Nat} (ha : 2 ≤ a) (ha2 : a < 2 ^ 31) (hb : b ≤ 32) (hp : p < 32) (hq : q < 32) : M_unlikeLetters (nI p) (nI q) (nI a) (nI b) = some (nI (ulN a p q b)) := by
  unfold M_unlikeLetters
  apply ok_eq
  refine fr4 (fun F c x y z => M_unlikeLetters_l12 F (nI a) (nI b) c x y z) (fun i c x y z => c = nI (ulN a p q i) ∧ x = nI (p / a ^ i) ∧ y = nI (q / a ^ i) ∧ z = nI i) b (fuel_big (by omega)) ?_ ?_ 0 (Nat.zero_le _) 0 (nI p) (nI q) 0 ⟨rfl, by rw [Nat.pow_zero, Nat.div_one], by rw [Nat.pow_zero, Nat.div_one], rfl⟩
  · rintro i hi c x y z ⟨rfl, rfl, rfl, rfl⟩ F ih
    have h1 := Nat.div_le_self p (a ^ i)
    have h2 := Nat.div_le_self q (a ^ i)
    have h3 := Nat.mod_lt (p / a ^ i) (show a > 0 by omega)
    have h4 := Nat.mod_lt (q / a ^ i) (show a > 0 by omega)
    rw [M_unlikeLetters_l12_s]
    unfold M_unlikeLetters_n12 M_unlikeLetters_n36
    rw [pk_rem (by omega) (by omega) ha2, pk_rem (by omega) (by omega) ha2, pk_div (by omega) (by omega) ha2, pk_div (by omega) (by omega) ha2, div_pow, div_pow]
    refine ok_f (nI_ge hi (by omega)) (ok_g (nzt (by omega) ha2) (ok_i (fun c => ok_g (nzt (by omega) ha2) (ih _ _ _ _ ⟨?_, rfl, rfl, nI_1 i⟩)) (fun c => ok_g (nzt (by omega) ha2) (ih _ _ _ _ ⟨?_, rfl, rfl, nI_1 i⟩))))
    · rw [ulN_yes ((nI_eq (by omega) (by omega)).mp c), show (0 : Int32) = nI 0 from rfl, nI_add]
      rfl
    · rw [ulN_no (fun h => c (congrArg nI h)), nI_1]
  · rintro c x y z ⟨rfl, rfl, rfl, rfl⟩ F
    rw [M_unlikeLetters_l12_s]
    unfold M_unlikeLetters_n12 M_unlikeLetters_n57
    exact ok_t (nI_le (Nat.le_refl b) (by omega)) (ok_s rfl)
theorem Mk_unlikeLetters_s {a b p q : Nat} (ha : 2 ≤ a) (ha2 : a < 2 ^ 31) (hb : b ≤ 32) (hp : p < 32) (hq : q < 32) (hpb : p < a ^ b) (hqb : q < a ^ b) : Mk_unlikeLetters (nI p) (nI q) (nI a) = some (nI (ulN a p q b)) := by
  have same : ∀ i, i ≤ b → p / a ^ i = q / a ^ i → ulN a p q i = ulN a p q b := by
    intro i hi h
    symm
    unfold ulN
    refine ct_gap hi (fun k h1 h2 => ?_)
    obtain ⟨d, rfl⟩ : ∃ d, k = i + d := ⟨k - i, by omega⟩
    rw [Nat.pow_add, ← Nat.div_div_eq_div_mul, ← Nat.div_div_eq_div_mul, h, decide_eq_true rfl]; rfl
  unfold Mk_unlikeLetters
  apply ok_eq
  refine ok_t ((nI_leI (a := 2) (by decide) ha2).mpr ha) ?_
  refine fr4 (fun F c x y z => Mk_unlikeLetters_l18 F (nI a) c x y z) (fun i c x y z => c = nI (ulN a p q i) ∧ x = nI (p / a ^ i) ∧ y = nI (q / a ^ i) ∧ z = nI i) b (fuel_big (by omega)) ?_ ?_ 0 (Nat.zero_le _) 0 (nI p) (nI q) 0 ⟨rfl, by rw [Nat.pow_zero, Nat.div_one], by rw [Nat.pow_zero, Nat.div_one], rfl⟩
  · rintro i hi c x y z ⟨rfl, rfl, rfl, rfl⟩ F ih
    have h1 := Nat.div_le_self p (a ^ i)
    have h2 := Nat.div_le_self q (a ^ i)
    have h3 := Nat.mod_lt (p / a ^ i) (show a > 0 by omega)
    have h4 := Nat.mod_lt (q / a ^ i) (show a > 0 by omega)
    rw [Mk_unlikeLetters_l18_s]
    unfold Mk_unlikeLetters_n18 Mk_unlikeLetters_n46 Mk_unlikeLetters_n64
    rw [pk_rem (by omega) (by omega) ha2, pk_rem (by omega) (by omega) ha2, pk_div (by omega) (by omega) ha2, pk_div (by omega) (by omega) ha2, div_pow, div_pow]
    refine ok_f (nI_ge (b := 32) (by omega) (by decide)) (ok_i (fun c => ok_s ?_) (fun c => ok_g (nzt (by omega) ha2) (ok_i (fun c => ok_g (nzt (by omega) ha2) (ih _ _ _ _ ⟨?_, rfl, rfl, nI_1 i⟩)) (fun c => ok_g (nzt (by omega) ha2) (ih _ _ _ _ ⟨?_, rfl, rfl, nI_1 i⟩)))))
    · rw [same i (by omega) ((nI_eq (by omega) (by omega)).mp c)]
    · rw [ulN_yes ((nI_eq (by omega) (by omega)).mp c)]
    · rw [ulN_no (fun h => c (congrArg nI h)), nI_1]
  · rintro c x y z ⟨rfl, rfl, rfl, rfl⟩ F
    rw [Mk_unlikeLetters_l18_s]
    unfold Mk_unlikeLetters_n18 Mk_unlikeLetters_n64
    rw [Nat.div_eq_of_lt hpb, Nat.div_eq_of_lt hqb]
    exact ok_i (fun _ => ok_s rfl) (fun _ => ok_t rfl (ok_s rfl))
theorem Mk_layWords_s {N a b : Nat} {mn : Nat → Int32} (ha : 2 ≤ a) (ha2 : a < 2 ^ 31) (hb : b ≤ 32) (hN : N ≤ 32) (hNb : N ≤ a ^ b) (hm : Lb mn (fun _ _ => false)) : Ok (Mk_layWords (nI a) (nI N) mn) (fun m => Lb m (jnA N (fun p q => decide (ulN a p q b = 1)))) := by
  obtain ⟨t, ht⟩ : ∃ t : Nat → Nat → Bool, ∀ p q, t p q = decide (ulN a p q b = 1) := ⟨fun p q => decide (ulN a p q b = 1), fun _ _ => rfl⟩
  have e : (fun p q => decide (ulN a p q b = 1)) = t := funext fun p => funext fun q => (ht p q).symm
  rw [e]
  unfold Mk_layWords
  refine fr2 (fun F x m => Mk_layWords_l2 (nI N) F (nI a) x m) (fun p x m => x = nI p ∧ Lb m (jn N t p 0)) N (fuel_big (by omega)) ?_ ?_ 0 (Nat.zero_le _) 0 mn ⟨rfl, by rw [jn_0]; exact hm⟩
  · rintro p hp x m ⟨rfl, h1⟩ F ih
    rw [Mk_layWords_l2_s]
    unfold Mk_layWords_n2
    refine ok_f (nI_ge hp (by omega)) ?_
    refine fr2 (fun F x m => Mk_layWords_l14 _ (nI N) F (nI a) (nI p) x m) (fun q x m => x = nI q ∧ p < q ∧ Lb m (jn N t p q)) N (fuel_big (by omega)) ?_ ?_ (p + 1) (by omega) _ m ⟨nI_1 p, by omega, by rw [jn_row]; exact h1⟩
    · rintro q hq x m ⟨rfl, hpq, h2⟩ F2 ih2
      have hle := ulN_le a p q b
      rw [Mk_layWords_l14_s]
      unfold Mk_layWords_n14 Mk_layWords_n38
      refine ok_f (nI_ge hq (by omega)) (ok_e (Mk_unlikeLetters_s ha ha2 hb (by omega) (by omega) (by omega) (by omega)) (ok_i (fun c => ok_b (Net_join_s hN hp hq (by omega) h2) (fun m2 h3 => ih2 _ _ ⟨nI_1 q, by omega, ?_⟩)) (fun c => ih2 _ _ ⟨nI_1 q, by omega, ?_⟩)))
      · rw [← jn_yes hpq hq (by rw [ht, decide_eq_true ((nI_eq (b := 1) (by omega) (by decide)).mp c)])]; exact h3
      · rw [jn_no (by rw [ht, decide_eq_false (fun h => c ((nI_eq (b := 1) (by omega) (by decide)).mpr h))])]; exact h2
    · rintro x m ⟨rfl, hpq, h2⟩ F2
      rw [Mk_layWords_l14_s]
      unfold Mk_layWords_n14 Mk_layWords_n44
      exact ok_t (nI_le (Nat.le_refl N) (by omega)) (ih _ _ ⟨nI_1 p, by rw [← jn_end]; exact h2⟩)
  · rintro x m ⟨rfl, h1⟩ F
    rw [Mk_layWords_l2_s]
    unfold Mk_layWords_n2 Mk_layWords_n50
    rw [jn_all (fun a b h2 h3 _ => by omega)] at h1
    exact ok_t (nI_le (Nat.le_refl N) (by omega)) (ok_s h1)
theorem lt1_nI {x : Int32} (c : ¬ x < 1) : ∃ a : Nat, a < 2 ^ 31 ∧ 1 ≤ a ∧ x = nI a := by
  obtain ⟨a, ha, rfl⟩ := nI_of (x := x) (fun g => c (by rw [fa_lt] at g ⊢; have z : (0 : Int32).toInt = 0 := rfl; have z3 : (1 : Int32).toInt = 1 := rfl; omega))
  refine ⟨a, ha, ?_, rfl⟩
  rcases Nat.lt_or_ge a 1 with g | g
  · exact absurd ((nI_ltI (b := 1) ha (by decide)).mpr g) c
  · exact g
theorem ulN_sym (a p q b : Nat) : ulN a p q b = ulN a q p b := by
  unfold ulN
  exact fb_ct_cong (fun k _ => by rw [show decide (p / a ^ k % a = q / a ^ k % a) = decide (q / a ^ k % a = p / a ^ k % a) from decide_eq_decide.mpr ⟨Eq.symm, Eq.symm⟩])
theorem build_2 (x2 x3 : Int32) : (∃ r, BRef 2 x2 x3 r) ∨ ∃ N A, BOk 2 x2 x3 N A := by
  by_cases c : x2 < 2
  · refine Or.inl ⟨-1, B_no ?_⟩
    unfold M_may M_may_n76 M_may_n77
    rw [if_neg (by decide), if_neg (by decide), if_pos rfl, if_pos c]; rfl
  by_cases c2 : x3 < 1
  · refine Or.inl ⟨-1, B_no ?_⟩
    unfold M_may M_may_n76 M_may_n77
    rw [if_neg (by decide), if_neg (by decide), if_pos rfl, if_neg c, if_pos c2]; rfl
  have hm : M_may 2 x2 x3 = some 1 := by
    unfold M_may M_may_n77
    rw [if_neg (by decide), if_neg (by decide), if_pos rfl, if_neg c, if_neg c2]; rfl
  obtain ⟨a, ha, rfl⟩ := nI_of (x := x2) (fun g => c (by rw [fa_lt] at g ⊢; have z : (0 : Int32).toInt = 0 := rfl; have z3 : (2 : Int32).toInt = 2 := rfl; omega))
  have ha2 : 2 ≤ a := by
    rcases Nat.lt_or_ge a 2 with g | g
    · exact absurd ((nI_ltI (b := 2) ha (by decide)).mpr g) c
    · exact g
  obtain ⟨b, hb, hb1, rfl⟩ := lt1_nI c2
  obtain ⟨z1, e1, v, rfl, hv, hv1, hv2⟩ := Mk_countWords_s ha2 ha hb
  obtain ⟨z2, e2, w, rfl, hw, hw1, hw2⟩ := M_power2_s ha2 ha hb
  have s1 : Mk_size 2 (nI a) (nI b) = some (lN v) := by
    unfold Mk_size
    rw [if_pos rfl, bnd_at e1]
  have s2 : M_sizeOf 2 (nI a) (nI b) = some (lN w) := by
    unfold M_sizeOf M_sizeOf_n43
    rw [if_pos (by decide), if_pos rfl, bnd_at e2, nI_l (by omega)]
  rcases Nat.lt_or_ge 32 (a ^ b) with g | g
  · exact Or.inl ⟨-2, B_full hm s1 s2 (hv2 g) hv (hw2 g) (by omega)⟩
  rw [hv1 g] at s1
  rw [hw1 g] at s2
  have hb5 : b ≤ 32 := by
    rcases Nat.lt_or_ge 32 b with h | h
    · exfalso
      have p1 : 2 ^ 6 ≤ 2 ^ b := Nat.pow_le_pow_right (by omega) (by omega)
      have p2 : 2 ^ b ≤ a ^ b := Nat.pow_le_pow_left ha2 b
      omega
    · exact h
  refine Or.inr ⟨a ^ b, _, B_ok (t := fun p q => decide (ulN a p q b = 1)) hm s1 s2 g (fun mn st hm2 => ?_) (fun st => ?_)⟩
  · unfold Mk_lay Mk_lay_n51
    rw [if_pos rfl]
    exact ok_b (Mk_layWords_s ha2 ha hb5 g (Nat.le_refl _) hm2) (fun m hm => ok_s hm)
  · rw [if_neg (by decide)]
    refine ok_s (fun p q hq hp => ?_)
    have hle := ulN_le a p q b
    unfold M_isMade M_isMade_n84
    rw [if_neg (by decide), if_neg (by decide), if_pos rfl, bnd_at (M_unlikeLetters_s ha2 ha hb5 (by omega) (by omega)), ulN_sym a q p b]
    by_cases c : ulN a p q b = 1
    · rw [if_pos (show nI (ulN a p q b) = 1 by rw [c]; rfl), decide_eq_true c]; rfl
    · rw [if_neg (show ¬ nI (ulN a p q b) = 1 from fun h => c ((nI_eq (b := 1) (by omega) (by decide)).mp h)), decide_eq_false c]; rfl
