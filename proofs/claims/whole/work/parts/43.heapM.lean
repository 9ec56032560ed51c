/-! the model's side of the tree -/
theorem sbit (x : Int32) {q : Nat} (hq : q < 32) : (x >>> (nI q &&& 31)) &&& 1 = bI (bt x q) := by
  apply b_ext
  intro i hi
  rw [b_and, b_sshr q hq x hi]
  have h1 : ∀ i, i < 32 → bt (1 : Int32) i = decide (i = 0) := by decide +kernel
  have h0 : ∀ i, i < 32 → bt (0 : Int32) i = false := by decide +kernel
  rw [h1 i hi]
  by_cases e : i = 0
  · subst e
    rw [if_pos (by omega), Nat.add_zero]
    cases bt x q <;> decide
  · rw [decide_eq_false e, Bool.and_false]
    cases bt x q
    · exact (h0 i hi).symm
    · show false = bt 1 i
      rw [h1 i hi, decide_eq_false e]
def bal (adj : Nat → Nat → Bool) (n e : Nat) : Nat → Nat → Bool := fun p y => decide (dN adj n p y ≤ e)
theorem bal_t {adj : Nat → Nat → Bool} {n e p y : Nat} : bal adj n e p y = true ↔ dN adj n p y ≤ e := by
  unfold bal
  exact decide_eq_true_iff
theorem bal_G {adj : Nat → Nat → Bool} {n e : Nat} (hw : WF n adj) (he : e ≤ 6) : BG n (bal adj n e) := ⟨hw.1, fun p hp => bal_t.mpr (by rw [dN_self]; omega), fun p x hp h => dN_lt hw hp (by have := bal_t.mp h; omega)⟩
theorem M_findNear_s {n e : Nat} {nt w : Nat → Int32} {adj : Nat → Nat → Bool} (hw : WF n adj) (he : e ≤ 6) (hm : ∀ p, p < n → ∀ q, q < 32 → w (32 * p + q) = wy (dN adj n p q)) : Ok (M_findNear (nI e) (nI n) nt w) (fun z => ∀ p, p < n → ∀ y, y < 32 → bt (z p) y = bal adj n e p y) := by
  have hn := hw.1
  unfold M_findNear
  refine fr2 (fun F x nt => M_findNear_l2 (nI n) w F (nI e) x nt) (fun i x nt => x = nI i ∧ ∀ p, p < i → ∀ y, y < 32 → bt (nt p) y = bal adj n e p y) n (fuel_big (by omega)) ?_ ?_ 0 (Nat.zero_le _) 0 nt ⟨rfl, all_none⟩
  · rintro p hp x nt ⟨rfl, h1⟩ F ih
    rw [M_findNear_l2_s]
    unfold M_findNear_n2
    rw [cl_nI (by omega)]
    refine ok_f (nI_ge hp (by omega)) (ok_g (inb_nI (by omega) (by omega)) ?_)
    refine fr2 (fun F x nt => M_findNear_l19 _ (nI n) w F (nI e) (nI p) x nt) (fun i x nt => x = nI i ∧ (∀ p2, p2 < p → ∀ y, y < 32 → bt (nt p2) y = bal adj n e p2 y) ∧ ∀ y, y < 32 → bt (nt p) y = (decide (y < i) && bal adj n e p y)) n (fuel_big (by omega)) ?_ ?_ 0 (Nat.zero_le _) 0 _ ⟨rfl, fun p2 hp2 => by rw [updN (by omega)]; exact h1 p2 hp2, fun y _ => by rw [updS, b_0, decide_eq_false (by omega)]; rfl⟩
    · rintro q hq x nt ⟨rfl, h2, h3⟩ F2 ih2
      have hv := wv_le (dN adj n p q)
      rw [M_findNear_l19_s]
      unfold M_findNear_n19 M_findNear_n56
      rw [i32, cl_nI (by omega), cl_nI (by omega), hm p hp q (by omega), wy_wv]
      refine ok_f (nI_ge hq (by omega)) (ok_g (inb_nI (by omega) (by omega)) (ok_g (inb_nI (by omega) (by omega)) (ok_i (fun c => ok_g (inb_nI (by omega) (by omega)) (ih2 _ _ ⟨nI_1 q, fun p2 hp2 => by rw [updN (by omega)]; exact h2 p2 hp2, fun y hy => ?_⟩)) (fun c => ok_g (inb_nI (by omega) (by omega)) (ih2 _ _ ⟨nI_1 q, fun p2 hp2 => by rw [updN (by omega)]; exact h2 p2 hp2, fun y hy => ?_⟩)))))
      · have c := (nI_ltI (by omega) (by omega)).mp c
        rw [updS, b_or, b_0, Bool.or_false, h3 y hy]
        by_cases ey : y = q
        · have : bal adj n e p y = false := Bool.eq_false_iff.mpr (fun h => by
            have h := bal_t.mp h
            rw [ey] at h
            unfold wv at c
            rw [if_pos (by omega)] at c
            omega)
          rw [this, Bool.and_false, Bool.and_false]
        · rw [show decide (y < q) = decide (y < q + 1) from decide_eq_decide.mpr (by omega)]
      · have c : ¬ e < wv (dN adj n p q) := fun h => c ((nI_ltI (by omega) (by omega)).mpr h)
        rw [updS, b_or, h3 y hy, b_one (by omega) hy]
        by_cases ey : y = q
        · have : bal adj n e p y = true := bal_t.mpr (by
            rw [ey]
            unfold wv at c
            by_cases g : dN adj n p q < 33
            · rw [if_pos g] at c; omega
            · rw [if_neg g] at c; omega)
          rw [this, decide_eq_true ey, decide_eq_true (show y < q + 1 by omega), Bool.or_true]; rfl
        · rw [decide_eq_false ey, Bool.or_false, show decide (y < q) = decide (y < q + 1) from decide_eq_decide.mpr (by omega)]
    · rintro x nt ⟨rfl, h2, h3⟩ F2
      rw [M_findNear_l19_s]
      unfold M_findNear_n19 M_findNear_n64
      refine ok_t (nI_le (Nat.le_refl n) (by omega)) (ih _ _ ⟨nI_1 p, all_next.mpr ⟨h2, fun y hy => ?_⟩⟩)
      rw [h3 y hy]
      by_cases g : y < n
      · rw [decide_eq_true g, Bool.true_and]
      · rw [decide_eq_false g, Bool.false_and]
        exact (Bool.eq_false_iff.mpr (fun h => g ((bal_G hw he).2.2 p y hp h))).symm
  · rintro x nt ⟨rfl, h1⟩ F
    rw [M_findNear_l2_s]
    unfold M_findNear_n2 M_findNear_n70
    exact ok_t (nI_le (Nat.le_refl n) (by omega)) (ok_s h1)
theorem M_uncovered_s {n d : Nat} {cov : Nat → Int32} {C : Nat → Bool} (hn : n ≤ 32) (hd : d < 33) (h : ∀ y, y < 32 → bt (cov d) y = C y) : M_uncovered (nI n) (nI d) cov = some (nI (unC n C)) := by
  unfold M_uncovered
  apply ok_eq
  refine fr1 (fun F x => M_uncovered_l2 (nI n) (nI d) cov F x) (fun i x => x = nI i ∧ ∀ y, y < i → C y = true) n (fuel_big (by omega)) ?_ ?_ 0 (Nat.zero_le _) 0 ⟨rfl, all_none⟩
  · rintro i hi x ⟨rfl, h1⟩ F ih
    rw [M_uncovered_l2_s]
    unfold M_uncovered_n2 M_uncovered_n33
    rw [cl_nI (by omega), sbit _ (by omega), h i (by omega)]
    refine ok_f (nI_ge hi (by omega)) (ok_g (inb_nI (by omega) (by omega)) (ok_i (fun c => ih _ ⟨nI_1 i, all_next.mpr ⟨h1, bI_eq1.mp c⟩⟩) (fun c => ok_s (congrArg nI ?_))))
    have hc : C i = false := by
      cases e : C i
      · rfl
      · rw [e] at c; exact absurd rfl c
    unfold unC
    rcases Nat.lt_or_ge (fa_first (fun x => !C x) n) i with g | g
    · have := fa_first_yes (fun x => !C x) n (by omega)
      have this : (!C (fa_first (fun x => !C x) n)) = true := this
      rw [h1 _ g] at this; cases this
    · rcases Nat.lt_or_ge i (fa_first (fun x => !C x) n) with g2 | g2
      · have := fa_first_no (fun x => !C x) n i g2
        have this : (!C i) = false := this
        rw [hc] at this; cases this
      · omega
  · rintro x ⟨rfl, h1⟩ F
    rw [M_uncovered_l2_s]
    unfold M_uncovered_n2 M_uncovered_n33
    refine ok_t (nI_le (Nat.le_refl n) (by omega)) (ok_s (congrArg nI ?_))
    symm
    exact ff_none.mpr (fun y hy => by rw [h1 y hy]; rfl)
theorem nxt_is {n r i : Nat} {B : Nat → Nat → Bool} {C : Nat → Bool} (hi : i < n) (hr : r ≤ i) (hc : cnd n B C i = true) (h : ∀ q, q < i → r ≤ q → cnd n B C q = false) : i = nxt n B C r := by
  rcases Nat.lt_or_ge (nxt n B C r) i with g | g
  · have := nxt_yes (n := n) (B := B) (C := C) (r := r) (by omega)
    rw [h _ g this.2.1] at this
    exact absurd this.2.2 (by decide)
  · rcases Nat.lt_or_ge i (nxt n B C r) with g2 | g2
    · have := fa_first_no (fun q => decide (r ≤ q) && cnd n B C q) n i g2
      have this : (decide (r ≤ i) && cnd n B C i) = false := this
      rw [hc, decide_eq_true hr] at this
      cases this
    · omega
def hpM (out : Int32 × (Nat → Nat)) (why tm : Int32) (tk : Nat → Int32) : Prop := (out.1 = -8 ∧ why = -8) ∨ (out.1 = -7 ∧ why = -7) ∨ ∃ m, 1 ≤ m ∧ m ≤ 32 ∧ out.1 = nI m ∧ why = 0 ∧ tm = nI m ∧ ∀ j, j < m → tk j = nI (out.2 j)
theorem M_find_l {n : Nat} {nt w : Nat → Int32} {f g im : Int32} {B : Nat → Nat → Bool} (hG : BG n B) (hb : ∀ p, p < n → ∀ y, y < 32 → bt (nt p) y = B p y) : ∀ (k d c : Nat) (T R : Nat → Nat) (out : Int32 × (Nat → Nat)), ab n B k d c T R = some out → AI n B d c T R → ∀ (F : Nat) (cov tk tr : Nat → Int32), k + 1 < F → (∀ j, j ≤ d → ∀ y, y < 32 → bt (cov j) y = Cov B T j y) → (∀ j, j < d → tk j = nI (T j)) → (∀ j, j ≤ d → tr j + 1 = nI (R j) ∧ R j ≤ n) → Ok (M_find_l54 (nI n) F (nI c) f g im (nI d) cov nt tk tr w) (fun z => hpM out z.1 z.2.2.2.2.1 z.2.2.2.2.2.2.2.1 ∧ z.2.1 = f ∧ z.2.2.1 = g ∧ z.2.2.2.1 = im ∧ z.2.2.2.2.2.2.2.2.2 = w) := by
  have hn := hG.1
  intro k
  induction k with
  | zero => intro d c T R out h; cases h
  | succ k ih =>
    intro d c T R out hab hA F cov tk tr hF h1 h2 h3
    have hd := AI_lt hG hA
    have hc := hA.1
    have hu := hA.2.2.1
    obtain ⟨F, rfl⟩ : ∃ G, F = G + 1 := ⟨F - 1, by omega⟩
    rw [M_find_l54_s]
    unfold M_find_n54
    refine ok_f (nI_pos (by omega)) (ok_e (M_uncovered_s hn (by omega) (h1 d (Nat.le_refl d))) ?_)
    rw [cl_nI (by omega), (h3 d (Nat.le_refl d)).1]
    refine ok_f (show ¬ nI (unC n (Cov B T d)) = nI n from fun h => by have := (nI_eq (by omega) (by omega)).mp h; omega) (ok_g (inb_nI (by omega) (by omega)) ?_)
    rw [ab_s] at hab
    -- what comes of the next post q
    have fin : ∀ q, q = nxt n B (Cov B T d) (R d) → Ok (M_find_n138 (fun x2 far heaps isMeasured takenMany coveredAt nearTo taken tried wayOf => M_find_l54 (nI n) F x2 far heaps isMeasured takenMany coveredAt nearTo taken tried wayOf) (nI n) (nI c) (nI q) f g im (nI d) cov nt tk tr w) (fun z => hpM out z.1 z.2.2.2.2.1 z.2.2.2.2.2.2.2.1 ∧ z.2.1 = f ∧ z.2.2.1 = g ∧ z.2.2.2.1 = im ∧ z.2.2.2.2.2.2.2.2.2 = w) := by
      intro q hq
      have hql := nxt_le (n := n) (B := B) (Cov B T d) (R d)
      unfold M_find_n138 M_find_n243 M_find_n178
      rw [cl_nI (by omega), cl_nI (by omega)]
      refine ok_g (inb_nI (by omega) (by omega)) ?_
      rw [← hq] at hab
      by_cases e : q = n
      · rw [if_pos e] at hab
        refine ok_t (congrArg nI e) ?_
        by_cases e0 : d = 0
        · rw [if_pos e0] at hab
          obtain rfl := Option.some.inj hab
          subst e0
          obtain ⟨F, rfl⟩ : ∃ G, F = G + 1 := ⟨F - 1, by omega⟩
          show Ok (M_find_l54 (nI n) (F + 1) (nI c) f g im (nI 0 - 1) cov nt tk _ w) _
          rw [M_find_l54_s]
          unfold M_find_n54 M_find_n246
          exact ok_t (by decide) (ok_s ⟨Or.inl ⟨rfl, rfl⟩, rfl, rfl, rfl, rfl⟩)
        · rw [if_neg e0] at hab
          obtain ⟨d, rfl⟩ : ∃ j, d = j + 1 := ⟨d - 1, by omega⟩
          rw [Nat.add_sub_cancel] at hab
          show Ok (M_find_l54 (nI n) F (nI c) f g im (nI (d + 1) - 1) cov nt tk _ w) _
          rw [nI_pred]
          exact ih d c T R out hab (AI_pop hG hA) F _ _ _ (by omega) (fun j hj => h1 j (by omega)) (fun j hj => h2 j (by omega)) (fun j hj => by rw [updN (by omega)]; exact h3 j (by omega))
      · rw [if_neg e] at hab
        refine ok_f (show ¬ nI q = nI n from fun h => e ((nI_eq (by omega) (by omega)).mp h)) ?_
        by_cases e2 : c = 20000
        · rw [if_pos e2] at hab
          obtain rfl := Option.some.inj hab
          exact ok_t (by rw [e2]; rfl) (ok_s ⟨Or.inr (Or.inl ⟨rfl, rfl⟩), rfl, rfl, rfl, rfl⟩)
        rw [if_neg e2] at hab
        rw [nI_1, cl_nI (by omega), nI_1]
        refine ok_f (show ¬ nI c = 20000 from fun h => e2 ((nI_eq (b := 20000) (by omega) (by decide)).mp h)) (ok_g (inb_nI (by omega) (by omega)) (ok_g (inb_nI (by omega) (by omega)) ?_))
        have g1 : q < n := by omega
        have hcov : ∀ j, j ≤ d + 1 → ∀ y, y < 32 → bt (upd cov (d + 1) (cov d ||| nt q) j) y = Cov B (uN T d q) j y := by
          intro j hj y hy
          by_cases ej : j = d + 1
          · rw [ej, updS, b_or, h1 d (Nat.le_refl d) y hy, hb q g1 y hy, Cov_s, Cov_up B T d _ d (Nat.le_refl d), uNs]
          · rw [updN ej, h1 j (by omega) y hy, Cov_up B T d _ j (by omega)]
        have htk : ∀ j, j < d + 1 → upd tk d (nI q) j = nI (uN T d q j) := by
          intro j hj
          by_cases ej : j = d
          · rw [ej, updS, uNs]
          · rw [updN ej, uNn ej]; exact h2 j (by omega)
        by_cases e3 : unC n (Cov B (uN T d q) (d + 1)) = n
        · rw [if_pos e3] at hab
          obtain rfl := Option.some.inj hab
          obtain ⟨F, rfl⟩ : ∃ G, F = G + 1 := ⟨F - 1, by omega⟩
          show Ok (M_find_l54 (nI n) (F + 1) (nI (c + 1)) f g im (nI (d + 1)) _ nt _ _ w) _
          rw [M_find_l54_s]
          unfold M_find_n54 M_find_n74
          refine ok_f (nI_pos (by omega)) (ok_e (M_uncovered_s hn (by omega) (hcov (d + 1) (Nat.le_refl _))) (ok_t (by rw [e3]) (ok_s ⟨Or.inr (Or.inr ⟨d + 1, by omega, by omega, rfl, rfl, rfl, htk⟩), rfl, rfl, rfl, rfl⟩)))
        · rw [if_neg e3] at hab
          have hA2 := AI_push (R := R) hA (by rw [← hq]; exact e) e2 (by rw [← hq]; exact e3)
          rw [← hq] at hA2
          show Ok (M_find_l54 (nI n) F (nI (c + 1)) f g im (nI (d + 1)) _ nt _ _ w) _
          refine ih (d + 1) (c + 1) _ _ out hab hA2 F _ _ _ (by omega) hcov htk (fun j hj => ?_)
          by_cases ej : j = d + 1
          · rw [ej, updS, uNs]
            exact ⟨by decide, Nat.zero_le n⟩
          · rw [updN ej, uNn ej]
            by_cases ej2 : j = d
            · rw [ej2, updS, uNs, nI_1]
              exact ⟨rfl, g1⟩
            · rw [updN ej2, uNn ej2]; exact h3 j (by omega)
    refine fr1 (fun G x => M_find_l89 _ (nI n) G (nI c) (nI (unC n (Cov B T d))) x f g im (nI d) cov nt tk tr w) (fun i x => x = nI i ∧ R d ≤ i ∧ ∀ q, q < i → R d ≤ q → cnd n B (Cov B T d) q = false) n (fuel_big (by omega)) ?_ ?_ (R d) (h3 d (Nat.le_refl d)).2 _ ⟨rfl, Nat.le_refl _, fun q a b => by omega⟩
    · rintro i hi x ⟨rfl, hRi, h4⟩ G ih2
      rw [M_find_l89_s]
      unfold M_find_n89 M_find_n132
      rw [cl_nI (by omega), cl_nI (by omega), cl_nI (by omega), sbit _ (by omega), hb _ hu i (by omega)]
      refine ok_f (nI_ge hi (by omega)) (ok_g (inb_nI (by omega) (by omega)) (ok_i (fun cc => ih2 _ ⟨nI_1 i, by omega, all_next.mpr ⟨h4, fun _ => ?_⟩⟩) (fun cc => ok_g (inb_nI (by omega) (by omega)) (ok_g (inb_nI (by omega) (by omega)) (ok_i (fun c2 => fin i ?_) (fun c2 => ih2 _ ⟨nI_1 i, by omega, all_next.mpr ⟨h4, fun _ => ?_⟩⟩))))))
      · unfold cnd
        rw [bI_eq0.mp cc]; rfl
      · refine nxt_is hi hRi (cnd_t.mpr ⟨?_, fun y hy gg => and0.mp c2 y (by omega) ⟨by rw [hb i hi y (by omega)]; exact gg.1, by rw [h1 d (Nat.le_refl d) y (by omega)]; exact gg.2⟩⟩) h4
        cases hv : B (unC n (Cov B T d)) i
        · rw [hv] at cc; exact absurd rfl cc
        · rfl
      · refine Bool.eq_false_iff.mpr (fun h => c2 (and0.mpr (fun y hy gg => ?_)))
        rw [hb i hi y hy, h1 d (Nat.le_refl d) y hy] at gg
        exact (cnd_t.mp h).2 y (hG.2.2 i y hi gg.1) gg
    · rintro x ⟨rfl, hRi, h4⟩ G
      rw [M_find_l89_s]
      unfold M_find_n89
      refine ok_t (nI_le (Nat.le_refl n) (by omega)) (fin n ?_)
      symm
      refine ff_none.mpr (fun q hq => ?_)
      by_cases gr : R d ≤ q
      · rw [h4 q hq gr, Bool.and_false]
      · rw [decide_eq_false gr]; rfl
/-! perfect and heap -/
noncomputable def hpR (adj : Nat → Nat → Bool) (n e : Nat) : Int32 × (Nat → Nat) := Classical.choose (ab_ends n (bal adj n e) 40001 0 0 (fun _ => 0) (fun _ => 0) (by omega) (by omega))
theorem hpR_is (adj : Nat → Nat → Bool) (n e : Nat) : ab n (bal adj n e) 40001 0 0 (fun _ => 0) (fun _ => 0) = some (hpR adj n e) := Classical.choose_spec (ab_ends n (bal adj n e) 40001 0 0 (fun _ => 0) (fun _ => 0) (by omega) (by omega))
theorem unC_0 {n : Nat} (h : 0 < n) : unC n (fun _ => false) < n := by
  unfold unC
  have h1 := fa_first_le (fun _ : Nat => !false) n
  rcases Nat.lt_or_ge (fa_first (fun _ : Nat => !false) n) n with g | g
  · exact g
  · have := ff_none.mp (show fa_first (fun _ : Nat => !false) n = n by omega) 0 h
    cases this
theorem Cov_0 (B : Nat → Nat → Bool) (T : Nat → Nat) : Cov B T 0 = fun _ => false := rfl
theorem AI_0 {n : Nat} {B : Nat → Nat → Bool} (h : 0 < n) : AI n B 0 0 (fun _ => 0) (fun _ => 0) := ⟨by omega, Nat.le_refl _, by rw [Cov_0]; exact unC_0 h, all_none⟩
theorem Wy_postsWithin_s {n p e : Nat} {ly : Nat → Int32} {adj : Nat → Nat → Bool} (hw : WF n adj) (hp : p < n) (he : e ≤ 6) (h : ∀ j, j < 32 → lyB adj n p j (ly (32 * p + j))) : Ok (Wy_postsWithin (nI p) (nI e) ly) (fun m => ∀ y, y < 32 → bt m y = bal adj n e p y) := by
  unfold Wy_postsWithin
  refine fr2 (fun F m x => Wy_postsWithin_l5 ly F (nI p) (nI e) m x) (fun i m x => x = nI i ∧ ∀ y, y < 32 → (bt m y = true ↔ dN adj n p y < i)) (e + 1) (fuel_big (by omega)) ?_ ?_ 0 (Nat.zero_le _) 0 0 ⟨rfl, fun y _ => ⟨fun g => absurd g (by rw [b_0]; decide), fun g => by omega⟩⟩
  · rintro i hi m x ⟨rfl, h1⟩ F ih
    rw [Wy_postsWithin_l5_s]
    unfold Wy_postsWithin_n5
    refine ok_f (nI_nlt (a := e) (b := i) (by omega) (by omega)) (ok_f (nI_ge (b := 32) (by omega) (by decide)) (ok_b (Wy_postsAt_s hw hp (by omega) h) (fun m2 h2 => ih _ _ ⟨nI_1 i, fun y hy => ?_⟩)))
    rw [b_or, Bool.or_eq_true, h1 y hy, h2 y hy]
    omega
  · rintro m x ⟨rfl, h1⟩ F
    rw [Wy_postsWithin_l5_s]
    unfold Wy_postsWithin_n5 Wy_postsWithin_n34
    refine ok_t (nI_lt (by omega) (by omega)) (ok_s (fun y hy => bt_iff ?_))
    rw [h1 y hy, bal_t]
    omega
theorem Se_climb_s {n e : Nat} {balls tk ut : Nat → Int32} {adj : Nat → Nat → Bool} (hw : WF n adj) (h0 : 0 < n) (he : e ≤ 6) (hb : ∀ p, p < n → ∀ y, y < 32 → bt (balls p) y = bal adj n e p y) : Ok (Se_climb (nI n) balls tk ut) (fun z => hpO (hpR adj n e) z.1 z.2.1) := by
  have hn := hw.1
  have hG := bal_G (n := n) (adj := adj) hw he
  unfold Se_climb
  refine ok_b (LN_allOf_s hn) (fun all hall => ok_b (Se_candidates_s (C := fun _ => false) hG hb (fun y _ => b_0 y) (fun y h => by cases h) (unC_0 h0)) (fun m hm => ?_))
  refine Se_climb_l hG hb hall 40001 0 0 (fun _ => 0) (fun _ => 0) _ (hpR_is adj n e) (AI_0 h0) FUEL 0 tk _ (fuel_big (by omega)) (fun y _ => b_0 y) all_none (fun j hj q hq => ?_)
  obtain rfl : j = 0 := by omega
  show bt (upd ut 0 m 0) q = _
  rw [updS, hm q hq, decide_eq_true (Nat.zero_le q), Bool.true_and]; rfl
theorem Se_run_s {n e : Nat} {fo re sz : Int32} {balls ly tk ut : Nat → Int32} {adj : Nat → Nat → Bool} (hw : WF n adj) (h0 : 0 < n) (he : e ≤ 6) (h : ∀ p, p < n → ∀ j, j < 32 → lyB adj n p j (ly (32 * p + j))) : Ok (Se_run (nI n) (nI e) fo re sz balls ly tk ut) (fun z => hpO (hpR adj n e) z.1 z.2.2.2.2.1 ∧ z.2.1 = nI e) := by
  have hn := hw.1
  unfold Se_run
  refine fr2 (fun F x b => Se_run_l8 ly F (nI e) x fo re (nI n) b tk ut) (fun i x b => x = nI i ∧ ∀ p, p < i → ∀ y, y < 32 → bt (b p) y = bal adj n e p y) n (fuel_big (by omega)) ?_ ?_ 0 (Nat.zero_le _) 0 balls ⟨rfl, all_none⟩
  · rintro i hi x b ⟨rfl, h1⟩ F ih
    rw [Se_run_l8_s]
    unfold Se_run_n8
    rw [cl_nI (by omega)]
    exact ok_f (nI_ge hi (by omega)) (ok_b (Wy_postsWithin_s hw hi he (h i hi)) (fun m hm => ok_g (inb_nI (by omega) (by omega)) (ih _ _ ⟨nI_1 i, all_next.mpr ⟨fun p hp => by rw [updN (by omega)]; exact h1 p hp, by rw [updS]; exact hm⟩⟩)))
  · rintro x b ⟨rfl, h1⟩ F
    rw [Se_run_l8_s]
    unfold Se_run_n8 Se_run_n37
    exact ok_t (nI_le (Nat.le_refl n) (by omega)) (ok_b (Se_climb_s hw h0 he h1) (fun z hz => ok_s ⟨hz, rfl⟩))
/-- what is kept of the search: its reach is no e, or what was found is right -/
def SK (adj : Nat → Nat → Bool) (n : Nat) (fo re : Int32) (tk : Nat → Int32) : Prop := re = -1 ∨ ∃ e, e ≤ 6 ∧ re = nI e ∧ 0 < n ∧ hpO (hpR adj n e) fo tk
noncomputable def spPerf (adj : Nat → Nat → Bool) (n : Nat) (x : Int32) : Int32 := if 0 ≤ x ∧ x ≤ 6 then (if n = 0 then -5 else (hpR adj n x.toNatClampNeg).1) else -1
theorem LN_perfect_s {n : Nat} {x fo re sz f rd ws wh : Int32} {nn balls tk ut ly rc st : Nat → Int32} {adj : Nat → Nat → Bool} (hw : WF n adj) (hb : Lb nn adj) (hc : LC adj n f rd ws wh ly rc st) (hs : SK adj n fo re tk) : Ok (LN_perfect x (nI n) fo re sz f rd ws wh nn balls tk ut ly rc st) (fun z => z.1 = spPerf adj n x ∧ SK adj n z.2.1 z.2.2.1 z.2.2.2.2.2.2.2.2.2.1 ∧ LC adj n z.2.2.2.2.1 z.2.2.2.2.2.1 z.2.2.2.2.2.2.1 z.2.2.2.2.2.2.2.1 z.2.2.2.2.2.2.2.2.2.2.2.1 z.2.2.2.2.2.2.2.2.2.2.2.2.1 z.2.2.2.2.2.2.2.2.2.2.2.2.2 ∧ (rd = 1 → z.2.2.2.2.2.1 = 1) ∧ (0 ≤ x ∧ x ≤ 6 → ¬ n = 0 → hpO (hpR adj n x.toNatClampNeg) z.1 z.2.2.2.2.2.2.2.2.2.1)) := by
  have hn := hw.1
  unfold LN_perfect LN_perfect_n10 LN_perfect_n59
  refine ok_i (fun c => ok_s ⟨?_, hs, hc, id, fun h => absurd c (nlt_le.mpr h.1)⟩) (fun c => ok_i (fun c2 => ?_) (fun c2 => ok_s ⟨?_, hs, hc, id, fun h => absurd h.2 c2⟩))
  · unfold spPerf
    rw [if_neg (fun h => absurd c (nlt_le.mpr h.1))]
  · have hx : 0 ≤ x ∧ x ≤ 6 := ⟨nlt_le.mp c, c2⟩
    refine ok_i (fun c3 => ok_s ⟨?_, hs, hc, id, fun _ h => absurd ((nI_eq (b := 0) (by omega) (by decide)).mp c3) h⟩) (fun c3 => ?_)
    · have c3 := (nI_eq (b := 0) (by omega) (by decide)).mp c3
      unfold spPerf
      rw [if_pos hx, if_pos c3]
    · have c3 : ¬ n = 0 := fun h => c3 ((nI_eq (b := 0) (by omega) (by decide)).mpr h)
      obtain ⟨e, he1, rfl⟩ := nI_of c
      have he : e ≤ 6 := (nI_leI (b := 6) he1 (by decide)).mp c2
      have sp : spPerf adj n (nI e) = (hpR adj n e).1 := by
        unfold spPerf
        rw [if_pos hx, if_neg c3, cl_nI he1]
      rw [sp, cl_nI he1]
      refine ok_i (fun c4 => ok_s ?_) (fun c4 => ok_b (LN_measure_c hw hb hc) (fun y hy => ok_b (Se_run_s hw (by omega) he hy.2.2.1) (fun z hz => ok_s ?_)))
      · have hh : hpO (hpR adj n e) fo tk := by
          rcases hs with h | ⟨e2, h1, h2, h3, h4⟩
          · rw [h] at c4
            have := congrArg Int32.toInt c4
            rw [nI_toInt he1] at this
            have z : (-1 : Int32).toInt = -1 := by decide
            omega
          · rw [h2] at c4
            have := (nI_eq (by omega) (by omega)).mp c4
            rw [this] at h4; exact h4
        exact ⟨hh.1, hs, hc, id, fun _ _ => hh⟩
      · exact ⟨hz.1.1, Or.inr ⟨e, he, hz.2, by omega, hz.1⟩, Or.inr hy, fun _ => hy.1, fun _ _ => hz.1⟩
  · unfold spPerf
    rw [if_neg (fun h => absurd h.2 c2)]
theorem hp_shape (adj : Nat → Nat → Bool) (n e : Nat) {why tm : Int32} {tk : Nat → Int32} (h : hpM (hpR adj n e) why tm tk) : ((hpR adj n e).1 < 0 ∧ why = (hpR adj n e).1 ∧ ¬ why = 0) ∨ ∃ m, 1 ≤ m ∧ m ≤ 32 ∧ (hpR adj n e).1 = nI m ∧ why = 0 ∧ tm = nI m ∧ ∀ j, j < m → tk j = nI ((hpR adj n e).2 j) := by
  rcases h with ⟨h1, h2⟩ | ⟨h1, h2⟩ | h
  · rw [h1, h2]; exact Or.inl ⟨by decide, rfl, by decide⟩
  · rw [h1, h2]; exact Or.inl ⟨by decide, rfl, by decide⟩
  · exact Or.inr h
theorem M_find_s {n : Nat} {x f g im tm : Int32} {cov nt road tk tr w : Nat → Int32} {adj : Nat → Nat → Bool} (hw : WF n adj) (hb : Mb road adj) (hc : MC adj n f g im w) : Ok (M_find x f g im (nI n) tm cov nt road tk tr w) (fun z => MC adj n z.2.1 z.2.2.1 z.2.2.2.1 z.2.2.2.2.2.2.2.2.2 ∧ ((¬ (0 ≤ x ∧ x ≤ 6) ∧ z.1 = -1) ∨ ((0 ≤ x ∧ x ≤ 6) ∧ n = 0 ∧ z.1 = -5) ∨ ((0 ≤ x ∧ x ≤ 6) ∧ ¬ n = 0 ∧ hpM (hpR adj n x.toNatClampNeg) z.1 z.2.2.2.2.1 z.2.2.2.2.2.2.2.1))) := by
  have hn := hw.1
  unfold M_find
  refine ok_e (M_inI (lo := 0) (hi := 6)) ?_
  by_cases hx : 0 ≤ x ∧ x ≤ 6
  rotate_left
  · exact ok_t (by rw [decide_eq_false hx]; rfl) (ok_s ⟨hc, Or.inl ⟨hx, rfl⟩⟩)
  refine ok_f (by rw [decide_eq_true hx]; decide) (ok_i (fun c3 => ok_s ⟨hc, Or.inr (Or.inl ⟨hx, (nI_eq (b := 0) (by omega) (by decide)).mp c3, rfl⟩)⟩) (fun c3 => ?_))
  have c3 : ¬ n = 0 := fun h => c3 ((nI_eq (b := 0) (by omega) (by decide)).mpr h)
  obtain ⟨e, he1, rfl⟩ := nI_of (nlt_le.mpr hx.1)
  have he : e ≤ 6 := (nI_leI (b := 6) he1 (by decide)).mp hx.2
  refine ok_b (M_measure_c hw hb hc) (fun y hy => ok_b (M_findNear_s hw he hy.2.1) (fun nt2 hnt => ?_))
  rw [cl_nI he1]
  refine ok_m (M_find_l (bal_G hw he) hnt 40001 0 0 (fun _ => 0) (fun _ => 0) _ (hpR_is adj n e) (AI_0 (by omega)) FUEL _ tk _ (fuel_big (by omega)) (fun j hj q hq => ?_) all_none (fun j hj => ?_)) (fun z hz => ⟨?_, Or.inr (Or.inr ⟨hx, c3, hz.1⟩)⟩)
  · obtain rfl : j = 0 := by omega
    show bt (upd cov 0 0 0) q = false
    rw [updS, b_0]
  · obtain rfl : j = 0 := by omega
    show upd tr 0 (-1) 0 + 1 = nI 0 ∧ 0 ≤ n
    rw [updS]
    exact ⟨by decide, Nat.zero_le n⟩
  · rw [hz.2.1, hz.2.2.1, hz.2.2.2.1, hz.2.2.2.2]
    exact Or.inr hy
theorem M_perfect_s {n : Nat} {x f g im tm : Int32} {cov nt road tk tr w : Nat → Int32} {adj : Nat → Nat → Bool} (hw : WF n adj) (hb : Mb road adj) (hc : MC adj n f g im w) : Ok (M_perfect x f g im (nI n) tm cov nt road tk tr w) (fun z => z.1 = spPerf adj n x ∧ MC adj n z.2.1 z.2.2.1 z.2.2.2.1 z.2.2.2.2.2.2.2.2.2) := by
  unfold M_perfect M_perfect_n18
  refine ok_b (M_find_s hw hb hc) (fun z hz => ?_)
  unfold spPerf
  rcases hz.2 with ⟨hx, e⟩ | ⟨hx, h0, e⟩ | ⟨hx, h0, e⟩
  · rw [if_neg hx]
    exact ok_f (by rw [e]; decide) (ok_s ⟨e, hz.1⟩)
  · rw [if_pos hx, if_pos h0]
    exact ok_f (by rw [e]; decide) (ok_s ⟨e, hz.1⟩)
  · rw [if_pos hx, if_neg h0]
    rcases hp_shape adj n _ e with ⟨_, h1, h2⟩ | ⟨m, h1, h2, h3, h4, h5, _⟩
    · exact ok_f h2 (ok_s ⟨h1, hz.1⟩)
    · exact ok_t h4 (ok_s ⟨by rw [h3]; exact h5, hz.1⟩)
noncomputable def spHeap (adj : Nat → Nat → Bool) (n : Nat) (x i : Int32) : Int32 := if spPerf adj n x < 0 then spPerf adj n x else if 0 ≤ i ∧ i < spPerf adj n x then nI ((hpR adj n x.toNatClampNeg).2 i.toNatClampNeg) else -8
theorem M_heap_s {n : Nat} {x i f g im tm : Int32} {cov nt road tk tr w : Nat → Int32} {adj : Nat → Nat → Bool} (hw : WF n adj) (hb : Mb road adj) (hc : MC adj n f g im w) : Ok (M_heap x i f g im (nI n) tm cov nt road tk tr w) (fun z => z.1 = spHeap adj n x i ∧ MC adj n z.2.1 z.2.2.1 z.2.2.2.1 z.2.2.2.2.2.2.2.2.2 ∧ (0 ≤ spPerf adj n x → ∃ m, 1 ≤ m ∧ m ≤ 32 ∧ spPerf adj n x = nI m)) := by
  unfold M_heap M_heap_n41
  refine ok_b (M_find_s hw hb hc) (fun z hz => ?_)
  have hsp : spPerf adj n x = if 0 ≤ x ∧ x ≤ 6 then (if n = 0 then -5 else (hpR adj n x.toNatClampNeg).1) else -1 := rfl
  unfold spHeap
  rcases hz.2 with ⟨hx, e⟩ | ⟨hx, h0, e⟩ | ⟨hx, h0, e⟩
  · rw [if_neg hx] at hsp
    rw [hsp, if_pos (show (-1 : Int32) < 0 by decide)]
    exact ok_f (by rw [e]; decide) (ok_s ⟨e, hz.1, fun h => absurd h (by decide)⟩)
  · rw [if_pos hx, if_pos h0] at hsp
    rw [hsp, if_pos (show (-5 : Int32) < 0 by decide)]
    exact ok_f (by rw [e]; decide) (ok_s ⟨e, hz.1, fun h => absurd h (by decide)⟩)
  · rw [if_pos hx, if_neg h0] at hsp
    rw [hsp]
    rcases hp_shape adj n _ e with ⟨h0, h1, h2⟩ | ⟨m, h1, h2, h3, h4, h5, h6⟩
    · rw [if_pos h0]
      exact ok_f h2 (ok_s ⟨h1, hz.1, fun h => absurd h0 (nlt_le.mpr h)⟩)
    · rw [h3, if_neg (nI_pos (by omega))]
      refine ok_t h4 ?_
      rw [h5, show nI m - 1 = nI (m - 1) from pk_sub (b := 1) h1]
      refine ok_e (M_inI (lo := 0) (hi := nI (m - 1))) ?_
      have key : (0 ≤ i ∧ i ≤ nI (m - 1)) ↔ (0 ≤ i ∧ i < nI m) := by
        rw [fa_le, fa_le, fa_lt, nI_toInt (by omega), nI_toInt (by omega)]
        omega
      by_cases hi : 0 ≤ i ∧ i < nI m
      · rw [if_pos hi]
        obtain ⟨k, hk, rfl⟩ := nI_of (nlt_le.mpr hi.1)
        have hkm : k < m := (nI_ltI hk (by omega)).mp hi.2
        refine ok_f (by rw [decide_eq_true (key.mpr hi)]; decide) (ok_g (inb_nI (by omega) (by omega)) (ok_s ⟨?_, hz.1, fun _ => ⟨m, h1, h2, rfl⟩⟩))
        rw [cl_nI hk]
        exact h6 k hkm
      · rw [if_neg hi]
        exact ok_t (by rw [decide_eq_false (fun h => hi (key.mp h))]; rfl) (ok_s ⟨rfl, hz.1, fun _ => ⟨m, h1, h2, rfl⟩⟩)
theorem LN_heap_s {n : Nat} {x i fo re sz f rd ws wh : Int32} {nn balls tk ut ly rc st : Nat → Int32} {adj : Nat → Nat → Bool} (hw : WF n adj) (hb : Lb nn adj) (hc : LC adj n f rd ws wh ly rc st) (hs : SK adj n fo re tk) (hm : 0 ≤ spPerf adj n x → ∃ m, 1 ≤ m ∧ m ≤ 32 ∧ spPerf adj n x = nI m) : Ok (LN_heap x i (nI n) fo re sz f rd ws wh nn balls tk ut ly rc st) (fun z => z.1 = spHeap adj n x i ∧ SK adj n z.2.1 z.2.2.1 z.2.2.2.2.2.2.2.2.2.1 ∧ LC adj n z.2.2.2.2.1 z.2.2.2.2.2.1 z.2.2.2.2.2.2.1 z.2.2.2.2.2.2.2.1 z.2.2.2.2.2.2.2.2.2.2.2.1 z.2.2.2.2.2.2.2.2.2.2.2.2.1 z.2.2.2.2.2.2.2.2.2.2.2.2.2 ∧ (rd = 1 → z.2.2.2.2.2.1 = 1)) := by
  unfold LN_heap LN_heap_n21 LN_heap_n35
  refine ok_b (LN_perfect_s hw hb hc hs) (fun z hz => ?_)
  obtain ⟨h1, h2, h3, h4, h5⟩ := hz
  rw [h1]
  have hsp : spPerf adj n x = if 0 ≤ x ∧ x ≤ 6 then (if n = 0 then -5 else (hpR adj n x.toNatClampNeg).1) else -1 := rfl
  unfold spHeap
  refine ok_i (fun c => ?_) (fun c => ok_s ⟨?_, h2, h3, h4⟩)
  · rw [if_neg (nlt_le.mpr c)]
    obtain ⟨m, m1, m2, em⟩ := hm c
    have hx : 0 ≤ x ∧ x ≤ 6 := Classical.byContradiction (fun h => by rw [if_neg h] at hsp; rw [hsp] at c; exact absurd c (by decide))
    have h0 : ¬ n = 0 := fun h => by rw [if_pos hx, if_pos h] at hsp; rw [hsp] at c; exact absurd c (by decide)
    rw [if_pos hx, if_neg h0] at hsp
    refine ok_i (fun c2 => ok_s ⟨?_, h2, h3, h4⟩) (fun c2 => ok_i (fun c3 => ?_) (fun c3 => ok_s ⟨?_, h2, h3, h4⟩))
    · rw [if_neg (fun h => nlt_le.mpr h.1 c2)]
    · rw [if_pos ⟨nlt_le.mp c2, c3⟩]
      obtain ⟨k, hk, rfl⟩ := nI_of c2
      rw [em] at c3
      have hkm : k < m := (nI_ltI hk (by omega)).mp c3
      refine ok_g (inb_nI (by omega) (by omega)) (ok_s ⟨?_, h2, h3, h4⟩)
      rw [cl_nI hk]
      exact (h5 hx h0).2 m (by rw [← hsp]; exact em) m2 k hkm
    · rw [if_neg (fun h => c3 h.2)]
  · rw [if_pos (Classical.byContradiction (fun h => c (nlt_le.mp h)))]
