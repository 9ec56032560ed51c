/-! build: what the makings share -/
theorem may_same (x0 x1 x2 : Int32) : Mk_mayBe x0 x1 x2 = M_may x0 x1 x2 := rfl
/-- pairs b < a in the model's order: by a, then by b -/
def jm (N : Nat) (t : Nat → Nat → Bool) (p q : Nat) : Nat → Nat → Bool := fun a b => decide ((a < b ∧ b < N ∧ (b < p ∨ (b = p ∧ a < q)) ∧ t a b = true) ∨ (b < a ∧ a < N ∧ (a < p ∨ (a = p ∧ b < q)) ∧ t b a = true))
theorem jm_ext {N p q p2 q2 : Nat} {t : Nat → Nat → Bool} (h : ∀ a b, a < b → b < N → t a b = true → ((b < p ∨ (b = p ∧ a < q)) ↔ (b < p2 ∨ (b = p2 ∧ a < q2)))) : jm N t p q = jm N t p2 q2 := by
  funext a b
  unfold jm
  apply decide_eq_decide.mpr
  constructor
  · rintro (⟨h1, h2, h3, h4⟩ | ⟨h1, h2, h3, h4⟩)
    · exact Or.inl ⟨h1, h2, (h a b h1 h2 h4).mp h3, h4⟩
    · exact Or.inr ⟨h1, h2, (h b a h1 h2 h4).mp h3, h4⟩
  · rintro (⟨h1, h2, h3, h4⟩ | ⟨h1, h2, h3, h4⟩)
    · exact Or.inl ⟨h1, h2, (h a b h1 h2 h4).mpr h3, h4⟩
    · exact Or.inr ⟨h1, h2, (h b a h1 h2 h4).mpr h3, h4⟩
theorem jm_0 {N : Nat} {t : Nat → Nat → Bool} : jm N t 0 0 = fun _ _ => false := by
  funext a b
  unfold jm
  apply decide_eq_false
  rintro (⟨h1, h2, h3, h4⟩ | ⟨h1, h2, h3, h4⟩) <;> omega
theorem jm_end {N p : Nat} {t : Nat → Nat → Bool} : jm N t p p = jm N t (p + 1) 0 := jm_ext (fun a b h1 h2 _ => by omega)
theorem jm_no {N p q : Nat} {t : Nat → Nat → Bool} (ht : t q p = false) : jm N t p (q + 1) = jm N t p q := jm_ext (fun a b h1 h2 h3 => by
  by_cases e : a = q ∧ b = p
  · obtain ⟨rfl, rfl⟩ := e; rw [ht] at h3; cases h3
  · omega)
theorem jm_yes {N p q : Nat} {t : Nat → Nat → Bool} (hpq : q < p) (hp : p < N) (ht : t q p = true) : setA (jm N t p q) p q true = jm N t p (q + 1) := by
  funext a b
  unfold setA
  by_cases c : (a = p ∧ b = q) ∨ (a = q ∧ b = p)
  · rw [if_pos c]
    symm
    apply decide_eq_true
    rcases c with ⟨rfl, rfl⟩ | ⟨rfl, rfl⟩
    · exact Or.inr ⟨hpq, hp, Or.inr ⟨rfl, by omega⟩, ht⟩
    · exact Or.inl ⟨hpq, hp, Or.inr ⟨rfl, by omega⟩, ht⟩
  · rw [if_neg c]
    unfold jm
    apply decide_eq_decide.mpr
    constructor
    · rintro (⟨h1, h2, h3, h4⟩ | ⟨h1, h2, h3, h4⟩)
      · exact Or.inl ⟨h1, h2, by omega, h4⟩
      · exact Or.inr ⟨h1, h2, by omega, h4⟩
    · rintro (⟨h1, h2, h3, h4⟩ | ⟨h1, h2, h3, h4⟩)
      · exact Or.inl ⟨h1, h2, by omega, h4⟩
      · exact Or.inr ⟨h1, h2, by omega, h4⟩
theorem jm_all {N : Nat} {t : Nat → Nat → Bool} : jm N t N 0 = jnA N t := by
  funext a b
  unfold jm jnA
  apply decide_eq_decide.mpr
  constructor
  · rintro (⟨h1, h2, h3, h4⟩ | ⟨h1, h2, h3, h4⟩)
    · exact Or.inl ⟨h1, h2, h4⟩
    · exact Or.inr ⟨h1, h2, h4⟩
  · rintro (⟨h1, h2, h4⟩ | ⟨h1, h2, h4⟩)
    · exact Or.inl ⟨h1, h2, Or.inl h2, h4⟩
    · exact Or.inr ⟨h1, h2, Or.inl h2, h4⟩
theorem M_build_loop {N : Nat} {x1 x2 x3 : Int32} {road st : Nat → Int32} {t : Nat → Nat → Bool} (hN : N ≤ 32) (hb : Mb road (fun _ _ => false)) (hM : ∀ p q, q < p → p < N → M_isMade x1 x2 x3 (nI p) (nI q) st = some (bI (t q p))) : Ok (M_build_l59 FUEL x1 x2 x3 0 0 0 (nI N) road st) (fun z => z.1 = nI N ∧ MFr (jnA N t) N z.2.1 z.2.2.1 z.2.2.2.1 z.2.2.2.2.1) := by
  refine fr4 (fun F x ak im road => M_build_l59 F x1 x2 x3 x ak im (nI N) road st) (fun p x ak im road => x = nI p ∧ ak = 0 ∧ im = 0 ∧ Mb road (jm N t p 0)) N (fuel_big (by omega)) ?_ ?_ 0 (Nat.zero_le _) 0 0 0 road ⟨rfl, rfl, rfl, by rw [jm_0]; exact hb⟩
  · rintro p hp x ak im road ⟨rfl, rfl, rfl, h1⟩ F ih
    rw [M_build_l59_s]
    unfold M_build_n59
    refine ok_f (nI_ge hp (by omega)) ?_
    refine fr4 (fun F x ak im road => M_build_l71 _ F x1 x2 x3 (nI p) x ak im (nI N) road st) (fun q x ak im road => x = nI q ∧ ak = 0 ∧ im = 0 ∧ Mb road (jm N t p q)) p (fuel_big (by omega)) ?_ ?_ 0 (Nat.zero_le _) 0 0 0 road ⟨rfl, rfl, rfl, h1⟩
    · rintro q hq x ak im road ⟨rfl, rfl, rfl, h2⟩ F2 ih2
      rw [M_build_l71_s]
      unfold M_build_n71 M_build_n103
      refine ok_f (nI_ge hq (by omega)) (ok_e (hM p q hq hp) ?_)
      cases ht : t q p
      · exact ok_t rfl (ih2 _ _ _ _ ⟨nI_1 q, rfl, rfl, by rw [jm_no ht]; exact h2⟩)
      · exact ok_f bI_n0 (ok_b (M_lay_s (v := true) (by omega) (by omega) h2) (fun z hz => ih2 _ _ _ _ ⟨nI_1 q, hz.2.1, hz.2.2.1, by rw [← jm_yes hq hp ht]; exact hz.2.2.2⟩))
    · rintro x ak im road ⟨rfl, rfl, rfl, h2⟩ F2
      rw [M_build_l71_s]
      unfold M_build_n71 M_build_n109
      exact ok_t (nI_le (Nat.le_refl p) (by omega)) (ih _ _ _ _ ⟨nI_1 p, rfl, rfl, by rw [← jm_end]; exact h2⟩)
  · rintro x ak im road ⟨rfl, rfl, rfl, h1⟩ F
    rw [M_build_l59_s]
    unfold M_build_n59 M_build_n115
    rw [jm_all] at h1
    exact ok_t (nI_le (Nat.le_refl N) (by omega)) (ok_s ⟨rfl, rfl, rfl, rfl, h1⟩)
theorem Mk_layPairs_s {N : Nat} {x1 x2 : Int32} {mn st : Nat → Int32} {t : Nat → Nat → Bool} (hN : N ≤ 32) (hb : Lb mn (fun _ _ => false)) (hM : ∀ p q, p < q → q < N → Mk_isRoad x1 (nI p) (nI q) x2 (nI N) st = some (bI (t p q))) : Ok (Mk_layPairs x1 x2 (nI N) mn st) (fun m => Lb m (jnA N t)) := by
  unfold Mk_layPairs
  refine fr2 (fun F x m => Mk_layPairs_l3 (nI N) st F x1 x2 x m) (fun p x m => x = nI p ∧ Lb m (jn N t p 0)) N (fuel_big (by omega)) ?_ ?_ 0 (Nat.zero_le _) 0 mn ⟨rfl, by rw [jn_0]; exact hb⟩
  · rintro p hp x m ⟨rfl, h1⟩ F ih
    rw [Mk_layPairs_l3_s]
    unfold Mk_layPairs_n3
    refine ok_f (nI_ge hp (by omega)) ?_
    refine fr2 (fun F x m => Mk_layPairs_l18 _ (nI N) st F x1 x2 (nI p) x m) (fun q x m => x = nI q ∧ p < q ∧ Lb m (jn N t p q)) N (fuel_big (by omega)) ?_ ?_ (p + 1) (by omega) _ m ⟨nI_1 p, by omega, by rw [jn_row]; exact h1⟩
    · rintro q hq x m ⟨rfl, hpq, h2⟩ F2 ih2
      rw [Mk_layPairs_l18_s]
      unfold Mk_layPairs_n18 Mk_layPairs_n52
      refine ok_f (nI_ge hq (by omega)) (ok_e (hM p q hpq hq) ?_)
      cases ht : t p q
      · exact ok_t rfl (ih2 _ _ ⟨nI_1 q, by omega, by rw [jn_no ht]; exact h2⟩)
      · exact ok_f bI_n0 (ok_b (Net_join_s hN hp hq (by omega) h2) (fun m2 h3 => ih2 _ _ ⟨nI_1 q, by omega, by rw [← jn_yes hpq hq ht]; exact h3⟩))
    · rintro x m ⟨rfl, hpq, h2⟩ F2
      rw [Mk_layPairs_l18_s]
      unfold Mk_layPairs_n18 Mk_layPairs_n58
      exact ok_t (nI_le (Nat.le_refl N) (by omega)) (ih _ _ ⟨nI_1 p, by rw [← jn_end]; exact h2⟩)
  · rintro x m ⟨rfl, h1⟩ F
    rw [Mk_layPairs_l3_s]
    unfold Mk_layPairs_n3 Mk_layPairs_n64
    rw [jn_all (fun a b h2 h3 _ => by omega)] at h1
    exact ok_t (nI_le (Nat.le_refl N) (by omega)) (ok_s h1)
theorem lI_small : ∀ N, N < 33 → (lN N).toInt32 = nI N := by decide +kernel
theorem lg32 {v : Nat} (h : v < 2 ^ 63) : lg_cmp (lN v) 32 ≤ 0 ↔ v ≤ 32 := by
  rw [lgc_le, show (32 : Int64) = lN 32 from rfl, pk_lLE h (by decide)]
def BRef (x1 x2 x3 r : Int32) : Prop := (∀ lr ms ns pr sr wr mn st nn, LN_build x1 x2 x3 lr ms ns pr sr wr mn st nn = some (r, lr, ms, ns, pr, sr, wr, mn, st, nn)) ∧ ∀ ak im ps road st, M_build x1 x2 x3 ak im ps road st = some (r, ak, im, ps, road, st)
def BOk (x1 x2 x3 : Int32) (N : Nat) (A : Nat → Nat → Bool) : Prop := WF N A ∧ (∀ lr ms ns pr sr wr mn st nn, Ok (LN_build x1 x2 x3 lr ms ns pr sr wr mn st nn) (fun z => z.1 = nI N ∧ LFr A N z.2.1 z.2.2.2.1 z.2.2.2.2.1 z.2.2.2.2.2.1 z.2.2.2.2.2.2.1 z.2.2.2.2.2.2.2.2.2)) ∧ ∀ ak im ps road st, Ok (M_build x1 x2 x3 ak im ps road st) (fun z => z.1 = nI N ∧ MFr A N z.2.1 z.2.2.1 z.2.2.2.1 z.2.2.2.2.1)
theorem B_no {x1 x2 x3 : Int32} (h : M_may x1 x2 x3 = some 0) : BRef x1 x2 x3 (-1) := by
  refine ⟨fun lr ms ns pr sr wr mn st nn => ?_, fun ak im ps road st => ?_⟩
  · unfold LN_build
    rw [may_same, bnd_at h, if_pos rfl]
  · unfold M_build
    rw [bnd_at h, if_pos rfl]
theorem B_full {x1 x2 x3 : Int32} {v w : Nat} (h : M_may x1 x2 x3 = some 1) (h1 : Mk_size x1 x2 x3 = some (lN v)) (h2 : M_sizeOf x1 x2 x3 = some (lN w)) (hv : 32 < v) (hv2 : v < 2 ^ 63) (hw : 32 < w) (hw2 : w < 2 ^ 63) : BRef x1 x2 x3 (-2) := by
  refine ⟨fun lr ms ns pr sr wr mn st nn => ?_, fun ak im ps road st => ?_⟩
  · unfold LN_build
    rw [may_same, bnd_at h, if_neg (by decide), bnd_at h1, if_neg (fun c => by rw [lg32 hv2] at c; omega)]
  · unfold M_build
    rw [bnd_at h, if_neg (by decide), bnd_at h2, if_neg (fun c => by rw [lg32 hw2] at c; omega)]
theorem B_ok {x1 x2 x3 : Int32} {N : Nat} {t : Nat → Nat → Bool} (h : M_may x1 x2 x3 = some 1) (h1 : Mk_size x1 x2 x3 = some (lN N)) (h2 : M_sizeOf x1 x2 x3 = some (lN N)) (hN : N ≤ 32) (hL : ∀ mn st, Lb mn (fun _ _ => false) → Ok (Mk_lay x1 x2 x3 (nI N) mn st) (fun z => Lb z.1 (jnA N t))) (hM : ∀ st, Ok (if x1 = 3 ∨ x1 = 4 then bnd (M_findSets x2 x3 st) fun z => some z.2 else some st) (fun st2 => ∀ p q, q < p → p < N → M_isMade x1 x2 x3 (nI p) (nI q) st2 = some (bI (t q p)))) : BOk x1 x2 x3 N (jnA N t) := by
  refine ⟨WF_jnA hN, fun lr ms ns pr sr wr mn st nn => ?_, fun ak im ps road st => ?_⟩
  · unfold LN_build
    rw [may_same]
    refine ok_e h (ok_f (by decide) (ok_e h1 (ok_t ((lg32 (by omega)).mpr hN) ?_)))
    rw [lI_small N (by omega)]
    refine ok_b (Net_empty_f _ _ _) (fun z hz => ?_)
    obtain ⟨z1, z2⟩ := z
    obtain ⟨rfl, hz⟩ : z1 = nI N ∧ Lb z2 (fun _ _ => false) := hz
    exact ok_b (hL _ _ hz) (fun y hy => ok_b (LN_adopt_s hy) (fun w hw => ok_s hw))
  · have n49 : ∀ st2, (∀ p q, q < p → p < N → M_isMade x1 x2 x3 (nI p) (nI q) st2 = some (bI (t q p))) → Ok (M_build_n49 x1 x2 x3 (lN N) ak im ps road st2) (fun z => z.1 = nI N ∧ MFr (jnA N t) N z.2.1 z.2.2.1 z.2.2.2.1 z.2.2.2.2.1) := by
      intro st2 h3
      unfold M_build_n49
      rw [lI_small N (by omega)]
      exact ok_e (M_fresh_s _ _ _ _ _) (M_build_loop hN (Mb_empty road) h3)
    have hs := hM st
    unfold M_build
    refine ok_e h (ok_f (by decide) (ok_e h2 (ok_t ((lg32 (by omega)).mpr hN) ?_)))
    by_cases c3 : x1 = 3
    · rw [if_pos (Or.inl c3)] at hs
      rw [if_pos c3]
      unfold M_build_n41
      obtain ⟨y, e, hy⟩ := hs
      cases ef : M_findSets x2 x3 st with
      | none => rw [ef] at e; cases e
      | some f =>
        rw [ef] at e
        obtain rfl : f.2 = y := Option.some.inj e
        exact ok_e rfl (n49 f.2 hy)
    · by_cases c4 : x1 = 4
      · rw [if_pos (Or.inr c4)] at hs
        rw [if_neg c3, if_pos c4]
        unfold M_build_n41
        obtain ⟨y, e, hy⟩ := hs
        cases ef : M_findSets x2 x3 st with
        | none => rw [ef] at e; cases e
        | some f =>
          rw [ef] at e
          obtain rfl : f.2 = y := Option.some.inj e
          exact ok_e rfl (n49 f.2 hy)
      · rw [if_neg (fun g => g.elim c3 c4)] at hs
        rw [if_neg c3, if_neg c4]
        obtain ⟨y, e, hy⟩ := hs
        obtain rfl := Option.some.inj e
        exact n49 _ hy
/-! rings, whole nets, two sides -/
theorem sz_a {x1 a b : Int32} (h : ¬ x1 = 2) (h3 : ¬ x1 = 3) (h4 : ¬ x1 = 4) (h5 : ¬ x1 = 5) : Mk_size x1 a b = some a.toInt64 := by
  unfold Mk_size
  rw [if_neg h, if_neg h3, if_neg h4, if_neg h5]
theorem build_0 (x2 x3 : Int32) : (∃ r, BRef 0 x2 x3 r) ∨ ∃ N A, BOk 0 x2 x3 N A := by
  by_cases c : x2 < 3
  · refine Or.inl ⟨-1, B_no ?_⟩
    unfold M_may
    rw [if_pos rfl, if_pos c]; rfl
  have hm : M_may 0 x2 x3 = some 1 := by
    unfold M_may
    rw [if_pos rfl, if_neg c]; rfl
  obtain ⟨a, ha, rfl⟩ := nI_of (x := x2) (fun g => c (by rw [fa_lt] at g ⊢; have z : (0 : Int32).toInt = 0 := rfl; have z3 : (3 : Int32).toInt = 3 := rfl; omega))
  have ha3 : 3 ≤ a := by
    rcases Nat.lt_or_ge a 3 with g | g
    · exact absurd ((nI_ltI (b := 3) ha (by decide)).mpr g) c
    · exact g
  have s1 : Mk_size 0 (nI a) x3 = some (lN a) := by rw [sz_a (by decide) (by decide) (by decide) (by decide), nI_l ha]
  have s2 : M_sizeOf 0 (nI a) x3 = some (lN a) := by
    unfold M_sizeOf M_sizeOf_n43
    rw [if_neg (by decide), nI_l ha]
  rcases Nat.lt_or_ge 32 a with g | g
  · exact Or.inl ⟨-2, B_full hm s1 s2 g (by omega) g (by omega)⟩
  refine Or.inr ⟨a, _, B_ok (t := fun p q => decide (q = p + 1 ∨ (p = 0 ∧ q = a - 1))) hm s1 s2 g (fun mn st hb => ?_) (fun st => ?_)⟩
  · unfold Mk_lay Mk_lay_n51
    rw [if_neg (by decide), if_neg (by decide), if_neg (by decide)]
    refine ok_b (Mk_layPairs_s (t := fun p q => decide (q = p + 1 ∨ (p = 0 ∧ q = a - 1))) g hb (fun p q hpq hq => ?_)) (fun m hm => ok_s hm)
    unfold Mk_isRoad Mk_isRoad_n59 Mk_isRoad_n63 Mk_isRoad_n64
    rw [if_pos rfl, nI_1, show nI a - 1 = nI (a - 1) from pk_sub (b := 1) (by omega)]
    by_cases e1 : q = p + 1
    · rw [if_pos (congrArg nI e1), decide_eq_true (Or.inl e1)]; rfl
    · rw [if_neg (fun h => e1 ((nI_eq (by omega) (by omega)).mp h))]
      by_cases e2 : p = 0
      · rw [if_pos (show nI p = 0 by rw [e2]; rfl)]
        by_cases e3 : q = a - 1
        · rw [if_pos (congrArg nI e3), decide_eq_true (Or.inr ⟨e2, e3⟩)]; rfl
        · rw [if_neg (fun h => e3 ((nI_eq (by omega) (by omega)).mp h)), decide_eq_false (by omega)]; rfl
      · rw [if_neg (show ¬ nI p = 0 from fun h => e2 ((nI_eq (b := 0) (by omega) (by decide)).mp h)), decide_eq_false (by omega)]; rfl
  · rw [if_neg (by decide)]
    refine ok_s (fun p q hq hp => ?_)
    unfold M_isMade M_isMade_n58 M_isMade_n63
    rw [if_pos rfl, gd_t (show nz (nI a) = true from decide_eq_true (nI_ne0 (by omega) (by omega))), nI_1, nI_1, pk_rem (by omega) (by omega) (by omega), pk_rem (by omega) (by omega) (by omega)]
    have m1 : (q + 1) % a = q + 1 := Nat.mod_eq_of_lt (by omega)
    rw [m1]
    by_cases e1 : p + 1 = a
    · rw [e1, Nat.mod_self]
      by_cases e2 : q = 0
      · rw [if_pos (show nI 0 = nI q by rw [e2]), decide_eq_true (by omega)]; rfl
      · rw [if_neg (fun h => e2 ((nI_eq (by omega) (by omega)).mp h).symm)]
        by_cases e3 : q + 1 = p
        · rw [if_pos (congrArg nI e3), decide_eq_true (by omega)]; rfl
        · rw [if_neg (fun h => e3 ((nI_eq (by omega) (by omega)).mp h)), decide_eq_false (by omega)]; rfl
    · rw [Nat.mod_eq_of_lt (show p + 1 < a by omega), if_neg (fun h => by have := (nI_eq (by omega) (by omega)).mp h; omega)]
      by_cases e3 : q + 1 = p
      · rw [if_pos (congrArg nI e3), decide_eq_true (by omega)]; rfl
      · rw [if_neg (fun h => e3 ((nI_eq (by omega) (by omega)).mp h)), decide_eq_false (by omega)]; rfl
theorem build_1 (x2 x3 : Int32) : (∃ r, BRef 1 x2 x3 r) ∨ ∃ N A, BOk 1 x2 x3 N A := by
  by_cases c : x2 < 1
  · refine Or.inl ⟨-1, B_no ?_⟩
    unfold M_may
    rw [if_neg (by decide), if_pos rfl, if_pos c]; rfl
  have hm : M_may 1 x2 x3 = some 1 := by
    unfold M_may
    rw [if_neg (by decide), if_pos rfl, if_neg c]; rfl
  obtain ⟨a, ha, rfl⟩ := nI_of (x := x2) (fun g => c (by rw [fa_lt] at g ⊢; have z : (0 : Int32).toInt = 0 := rfl; have z3 : (1 : Int32).toInt = 1 := rfl; omega))
  have s1 : Mk_size 1 (nI a) x3 = some (lN a) := by rw [sz_a (by decide) (by decide) (by decide) (by decide), nI_l ha]
  have s2 : M_sizeOf 1 (nI a) x3 = some (lN a) := by
    unfold M_sizeOf M_sizeOf_n43
    rw [if_neg (by decide), nI_l ha]
  rcases Nat.lt_or_ge 32 a with g | g
  · exact Or.inl ⟨-2, B_full hm s1 s2 g (by omega) g (by omega)⟩
  refine Or.inr ⟨a, _, B_ok (t := fun p q => true) hm s1 s2 g (fun mn st hb => ?_) (fun st => ?_)⟩
  · unfold Mk_lay Mk_lay_n51
    rw [if_neg (by decide), if_neg (by decide), if_neg (by decide)]
    refine ok_b (Mk_layPairs_s (t := fun p q => true) g hb (fun p q hpq hq => ?_)) (fun m hm => ok_s hm)
    unfold Mk_isRoad
    rw [if_neg (by decide), if_pos rfl]; rfl
  · rw [if_neg (by decide)]
    refine ok_s (fun p q hq hp => ?_)
    unfold M_isMade
    rw [if_neg (by decide), if_pos rfl]; rfl
theorem build_5 (x2 x3 : Int32) : (∃ r, BRef 5 x2 x3 r) ∨ ∃ N A, BOk 5 x2 x3 N A := by
  by_cases c : x2 < 1
  · refine Or.inl ⟨-1, B_no ?_⟩
    unfold M_may M_may_n108 M_may_n109
    rw [if_neg (by decide), if_neg (by decide), if_neg (by decide), if_neg (by decide), if_neg (by decide), if_pos rfl, if_pos c]; rfl
  by_cases c2 : x3 < 1
  · refine Or.inl ⟨-1, B_no ?_⟩
    unfold M_may M_may_n108 M_may_n109
    rw [if_neg (by decide), if_neg (by decide), if_neg (by decide), if_neg (by decide), if_neg (by decide), if_pos rfl, if_neg c, if_pos c2]; rfl
  have hm : M_may 5 x2 x3 = some 1 := by
    unfold M_may M_may_n109
    rw [if_neg (by decide), if_neg (by decide), if_neg (by decide), if_neg (by decide), if_neg (by decide), if_pos rfl, if_neg c, if_neg c2]; rfl
  obtain ⟨a, ha, rfl⟩ := nI_of (x := x2) (fun g => c (by rw [fa_lt] at g ⊢; have z : (0 : Int32).toInt = 0 := rfl; have z3 : (1 : Int32).toInt = 1 := rfl; omega))
  obtain ⟨b, hb, rfl⟩ := nI_of (x := x3) (fun g => c2 (by rw [fa_lt] at g ⊢; have z : (0 : Int32).toInt = 0 := rfl; have z3 : (1 : Int32).toInt = 1 := rfl; omega))
  have s1 : Mk_size 5 (nI a) (nI b) = some (lN (a + b)) := by
    unfold Mk_size
    rw [if_neg (by decide), if_neg (by decide), if_neg (by decide), if_pos rfl, nI_l ha, nI_l hb, lN_add]
  have s2 : M_sizeOf 5 (nI a) (nI b) = some (lN (a + b)) := by
    unfold M_sizeOf M_sizeOf_n43
    rw [if_pos (by decide), if_neg (by decide), if_pos (by decide), nI_l ha, nI_l hb, lN_add]
  rcases Nat.lt_or_ge 32 (a + b) with g | g
  · exact Or.inl ⟨-2, B_full hm s1 s2 g (by omega) g (by omega)⟩
  refine Or.inr ⟨a + b, _, B_ok (t := fun p q => decide (p < a ∧ a ≤ q)) hm s1 s2 g (fun mn st hb => ?_) (fun st => ?_)⟩
  · unfold Mk_lay Mk_lay_n51
    rw [if_neg (by decide), if_neg (by decide), if_neg (by decide)]
    refine ok_b (Mk_layPairs_s (t := fun p q => decide (p < a ∧ a ≤ q)) g hb (fun p q hpq hq => ?_)) (fun m hm => ok_s hm)
    unfold Mk_isRoad Mk_isRoad_n134 Mk_isRoad_n135
    rw [if_neg (by decide), if_neg (by decide), if_neg (by decide), if_neg (by decide), if_neg (by decide), if_pos rfl]
    by_cases e1 : a ≤ p
    · rw [if_pos ((nI_leI (by omega) (by omega)).mpr e1), decide_eq_false (by omega)]; rfl
    · rw [if_neg (fun h => e1 ((nI_leI (by omega) (by omega)).mp h))]
      by_cases e2 : q < a
      · rw [if_pos ((nI_ltI (by omega) (by omega)).mpr e2), decide_eq_false (by omega)]; rfl
      · rw [if_neg (fun h => e2 ((nI_ltI (by omega) (by omega)).mp h)), decide_eq_true (by omega)]; rfl
  · rw [if_neg (by decide)]
    refine ok_s (fun p q hq hp => ?_)
    unfold M_isMade M_isMade_n150 M_isMade_n161 M_isMade_n169
    rw [if_neg (by decide), if_neg (by decide), if_neg (by decide), if_neg (by decide), if_neg (by decide)]
    by_cases e1 : a ≤ p
    · rw [if_pos ((nI_leI (by omega) (by omega)).mpr e1)]
      by_cases e2 : a ≤ q
      · rw [if_pos ((nI_leI (by omega) (by omega)).mpr e2), if_pos rfl, decide_eq_false (by omega)]; rfl
      · rw [if_neg (fun h => e2 ((nI_leI (by omega) (by omega)).mp h)), if_neg (by decide), decide_eq_true (by omega)]; rfl
    · rw [if_neg (fun h => e1 ((nI_leI (by omega) (by omega)).mp h)), if_neg (fun h => by have := (nI_leI (by omega) (by omega)).mp h; omega), if_pos rfl, decide_eq_false (by omega)]; rfl
