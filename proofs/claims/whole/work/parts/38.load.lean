/-! load -/
def ldOk (x2 x3 : Int32) (n m0 : Nat) (c : Nat → Int32) : Prop := ∃ a b, x2 = nI a ∧ x3 = nI b ∧ a + 2 * b ≤ m0 ∧ ∀ k, k < b → inb (c (a + 2 * k)) n = true ∧ inb (c (a + 2 * k + 1)) n = true ∧ c (a + 2 * k) ≠ c (a + 2 * k + 1)
def ldA (adj : Nat → Nat → Bool) (c : Nat → Int32) (a : Nat) : Nat → Nat → Nat → Bool
  | 0 => adj
  | k + 1 => setA (ldA adj c a k) (c (a + 2 * k)).toNatClampNeg (c (a + 2 * k + 1)).toNatClampNeg true
theorem roads_set {A : Nat → Nat → Bool} {n p q : Nat} (hw : WF n A) (hp : p < n) (hq : q < n) (hpq : p ≠ q) : roadsN (setA A p q true) n = roadsN A n + (if A p q = true then 0 else 1) := by
  have hn := hw.1
  have main : ∀ p q, p < n → q < n → p < q → roadsN (setA A p q true) n = roadsN A n + (if A p q = true then 0 else 1) := by
    intro p q hp hq hpq
    rw [roads_ct hw, roads_ct (WF_setA hw hp hq (by omega))]
    have e : fb_ct (rdP (setA A p q true)) 1024 = fb_ct (fun k => if k = 32 * p + q then true else rdP A k) 1024 := by
      refine fb_ct_cong (fun k hk => ?_)
      have ek : k = 32 * (k / 32) + k % 32 := by omega
      by_cases c : k = 32 * p + q
      · rw [if_pos c, c, rdP_at (by omega), decide_eq_true hpq]
        unfold setA
        rw [if_pos (Or.inl ⟨rfl, rfl⟩)]; rfl
      · rw [if_neg c, ek, rdP_at (by omega), rdP_at (by omega)]
        by_cases l : k / 32 < k % 32
        · unfold setA
          rw [if_neg (by omega)]
        · rw [decide_eq_false l]; rfl
    have u := fb_ct_upd (rdP A) true (i := 32 * p + q) (n := 1024) (by omega)
    rw [rdP_at (by omega), decide_eq_true hpq, Bool.true_and] at u
    rw [e]
    cases hv : A p q
    · rw [hv] at u
      rw [if_neg (by decide)]
      have z1 : (if false = true then 1 else 0 : Nat) = 0 := rfl
      have z2 : (if true = true then 1 else 0 : Nat) = 1 := rfl
      omega
    · rw [hv] at u
      rw [if_pos rfl]
      have z2 : (if true = true then 1 else 0 : Nat) = 1 := rfl
      omega
  rcases Nat.lt_or_ge p q with c | c
  · exact main p q hp hq c
  · rw [setA_sym, hw.2.1 p q]
    exact main q p hq hp (by omega)
theorem ld_wf {adj : Nat → Nat → Bool} {c : Nat → Int32} {n a b : Nat} (hw : WF n adj) (h : ∀ k, k < b → inb (c (a + 2 * k)) n = true ∧ inb (c (a + 2 * k + 1)) n = true ∧ c (a + 2 * k) ≠ c (a + 2 * k + 1)) : ∀ k, k ≤ b → WF n (ldA adj c a k) := by
  have hn := hw.1
  intro k
  induction k with
  | zero => intro _; exact hw
  | succ k ih =>
    intro hk
    obtain ⟨h1, h2, h3⟩ := h k (by omega)
    obtain ⟨p, hp, e1⟩ := inb_of h1 (by omega)
    obtain ⟨q, hq, e2⟩ := inb_of h2 (by omega)
    unfold ldA
    rw [e1, e2, cl_nI (by omega), cl_nI (by omega)]
    exact WF_setA (ih (by omega)) hp hq (fun e => h3 (by rw [e1, e2, e]))
theorem Sh_read_s {j m0 : Nat} (hj : j < m0) (hm : m0 ≤ 60) (cells : Nat → Int32) : Sh_read (nI j) (nI m0) cells = some (cells j) := by
  unfold Sh_read Sh_read_n18
  rw [bnd_at (Sh_has_s (by omega)), inb_nI hj (by omega), if_neg (by decide), gd_t (inb_nI (by omega) (by omega)), cl_nI (by omega)]
theorem ld_long {a b m0 : Nat} (ha : a < 2 ^ 31) (hb : b < 2 ^ 31) (hm : m0 ≤ 60) : lg_cmp ((nI a).toInt64 + 2 * (nI b).toInt64) (nI m0).toInt64 ≤ 0 ↔ a + 2 * b ≤ m0 := by
  rw [lgc_le, fa_le64]
  have e1 : (nI a).toInt64.toInt = (a : Int) := by rw [Int32.toInt_toInt64, nI_toInt ha]
  have e2 : (nI b).toInt64.toInt = (b : Int) := by rw [Int32.toInt_toInt64, nI_toInt hb]
  have e3 : (nI m0).toInt64.toInt = (m0 : Int) := by rw [Int32.toInt_toInt64, nI_toInt (by omega)]
  have e4 : (2 : Int64).toInt = 2 := by decide
  have e5 : (2 * (nI b).toInt64).toInt = 2 * (b : Int) := by rw [fb_mulL (by rw [e4, e2]; omega) (by rw [e4, e2]; omega), e4, e2]
  rw [fb_addL (by rw [e1, e5]; omega) (by rw [e1, e5]; omega), e1, e5, e3]
  omega
theorem ix2 (a k : Nat) : nI a + 2 * nI k = nI (a + 2 * k) := by rw [two_nI, nI_add]
theorem LN_mayLoad_s {x2 x3 : Int32} {n m0 : Nat} {cells : Nat → Int32} (hn : n ≤ 32) (hm : m0 ≤ 60) : Ok (LN_mayLoad x2 x3 (nI n) (nI m0) cells) (fun r => (ldOk x2 x3 n m0 cells → r = 1) ∧ (¬ ldOk x2 x3 n m0 cells → r = 0)) := by
  unfold LN_mayLoad LN_mayLoad_n26
  refine ok_i (fun c => ok_s ⟨?_, fun _ => rfl⟩) (fun c => ok_i (fun c2 => ok_s ⟨?_, fun _ => rfl⟩) (fun c2 => ?_))
  · rintro ⟨a, b, rfl, rfl, h, _⟩
    exact absurd c (nI_pos (by omega))
  · rintro ⟨a, b, rfl, rfl, h, _⟩
    exact absurd c2 (nI_pos (by omega))
  · obtain ⟨a, ha, rfl⟩ := nI_of c
    obtain ⟨b, hb, rfl⟩ := nI_of c2
    refine ok_i (fun c3 => ?_) (fun c3 => ok_s ⟨?_, fun _ => rfl⟩)
    · have c3 := (ld_long ha hb hm).mp c3
      refine fr1 (fun F x => LN_mayLoad_l31 (nI n) (nI m0) cells F (nI a) (nI b) x) (fun k x => x = nI k ∧ ∀ j, j < k → inb (cells (a + 2 * j)) n = true ∧ inb (cells (a + 2 * j + 1)) n = true ∧ cells (a + 2 * j) ≠ cells (a + 2 * j + 1)) b (fuel_big (by omega)) ?_ ?_ 0 (Nat.zero_le _) 0 ⟨rfl, all_none⟩
      · rintro k hk x ⟨rfl, h1⟩ F ih
        rw [LN_mayLoad_l31_s]
        unfold LN_mayLoad_n31 LN_mayLoad_n69
        rw [ix2, nI_1]
        refine ok_f (nI_ge hk (by omega)) (ok_e (Sh_read_s (by omega) hm _) (ok_e (Sh_read_s (by omega) hm _) (ok_e (Net_mayJoin_s (by omega)) ?_)))
        have bad : ¬ (inb (cells (a + 2 * k)) n = true ∧ inb (cells (a + 2 * k + 1)) n = true ∧ cells (a + 2 * k) ≠ cells (a + 2 * k + 1)) → ¬ ldOk (nI a) (nI b) n m0 cells := by
          rintro hno ⟨a2, b2, e1, e2, h3, h4⟩
          have e1 := (nI_eq ha (by omega)).mp e1
          have e2 := (nI_eq hb (by omega)).mp e2
          subst e1
          subst e2
          exact hno (h4 k hk)
        cases h2 : inb (cells (a + 2 * k)) n
        · exact ok_t rfl (ok_s ⟨fun h => absurd h (bad (fun g => by rw [h2] at g; exact absurd g.1 (by decide))), fun _ => rfl⟩)
        cases h3 : inb (cells (a + 2 * k + 1)) n
        · exact ok_t rfl (ok_s ⟨fun h => absurd h (bad (fun g => by rw [h3] at g; exact absurd g.2.1 (by decide))), fun _ => rfl⟩)
        by_cases e : cells (a + 2 * k) = cells (a + 2 * k + 1)
        · rw [decide_eq_true e]
          exact ok_t (by decide) (ok_s ⟨fun h => absurd h (bad (fun g => g.2.2 e)), fun _ => rfl⟩)
        · rw [decide_eq_false e]
          exact ok_f (by decide) (ih _ ⟨nI_1 k, all_next.mpr ⟨h1, h2, h3, e⟩⟩)
      · rintro x ⟨rfl, h1⟩ F
        rw [LN_mayLoad_l31_s]
        unfold LN_mayLoad_n31 LN_mayLoad_n77
        exact ok_t (nI_le (Nat.le_refl b) (by omega)) (ok_s ⟨fun _ => rfl, fun h => absurd ⟨a, b, rfl, rfl, c3, h1⟩ h⟩)
    · rintro ⟨a2, b2, e1, e2, h3, h4⟩
      have e1 := (nI_eq ha (by omega)).mp e1
      have e2 := (nI_eq hb (by omega)).mp e2
      subst e1
      subst e2
      exact absurd ((ld_long ha hb hm).mpr h3) c3
theorem LN_load_s0_m {x2 x3 lr ns pr sr sz th wr : Int32} {nn cells : Nat → Int32} (h : th = 0) : LN_load_s0 x2 x3 lr ns pr sr sz th wr nn cells = some (-3, lr, pr, sr, wr, nn) := by
  unfold LN_load_s0
  rw [bnd_at LN_isSheet_s, if_neg (by decide), if_pos h]
theorem LN_load_s0_b {n m0 : Nat} {x2 x3 lr pr sr th wr : Int32} {nn cells : Nat → Int32} (hn : n ≤ 32) (hm : m0 ≤ 60) (h : ¬ th = 0) (hno : ¬ ldOk x2 x3 n m0 cells) : LN_load_s0 x2 x3 lr (nI n) pr sr (nI m0) th wr nn cells = some (-1, lr, pr, sr, wr, nn) := by
  obtain ⟨r, e, hr⟩ := LN_mayLoad_s (x2 := x2) (x3 := x3) (cells := cells) hn hm
  unfold LN_load_s0
  rw [bnd_at LN_isSheet_s, if_neg (by decide), if_neg h, bnd_at e, if_pos (hr.2 hno)]
theorem LN_load_s0_s {n m0 a b : Nat} {lr pr sr th wr : Int32} {nn cells : Nat → Int32} {adj : Nat → Nat → Bool} (hw : WF n adj) (hb : Lb nn adj) (hm : m0 ≤ 60) (h : ¬ th = 0) (hab : a + 2 * b ≤ m0) (hok : ∀ k, k < b → inb (cells (a + 2 * k)) n = true ∧ inb (cells (a + 2 * k + 1)) n = true ∧ cells (a + 2 * k) ≠ cells (a + 2 * k + 1)) : Ok (LN_load_s0 (nI a) (nI b) lr (nI n) pr sr (nI m0) th wr nn cells) (fun z => z.1 = nI (roadsN (ldA adj cells a b) n) - nI (roadsN adj n) ∧ z.2.1 = 0 ∧ z.2.2.1 = 0 ∧ z.2.2.2.1 = -1 ∧ z.2.2.2.2.1 = 0 ∧ Lb z.2.2.2.2.2 (ldA adj cells a b)) := by
  have hn := hw.1
  unfold LN_load_s0
  refine ok_e LN_isSheet_s (ok_f (by decide) (ok_f h (ok_b (LN_mayLoad_s hn hm) (fun r hr => ok_f (by rw [hr.1 ⟨a, b, rfl, rfl, hab, hok⟩]; decide) (ok_e (Net_roads_s hw hb) ?_)))))
  refine fr2 (fun F x nn => LN_load_s0_l53 (nI n) (nI m0) cells F (nI a) (nI b) (nI (roadsN adj n)) x lr pr sr wr nn) (fun k x nn => x = nI k ∧ Lb nn (ldA adj cells a k)) b (fuel_big (by omega)) ?_ ?_ 0 (Nat.zero_le _) 0 nn ⟨rfl, hb⟩
  · rintro k hk x nn ⟨rfl, h1⟩ F ih
    rw [LN_load_s0_l53_s]
    unfold LN_load_s0_n53
    rw [ix2, nI_1]
    refine ok_f (nI_ge hk (by omega)) (ok_e (Sh_read_s (by omega) hm _) (ok_e (Sh_read_s (by omega) hm _) ?_))
    obtain ⟨g1, g2, g3⟩ := hok k hk
    obtain ⟨p, hp, e1⟩ := inb_of g1 (by omega)
    obtain ⟨q, hq, e2⟩ := inb_of g2 (by omega)
    rw [e1, e2]
    refine ok_b (Net_join_s hn hp hq (fun e => g3 (by rw [e1, e2, e])) h1) (fun m h2 => ih _ _ ⟨nI_1 k, ?_⟩)
    unfold ldA
    rw [e1, e2, cl_nI (by omega), cl_nI (by omega)]
    exact h2
  · rintro x nn ⟨rfl, h1⟩ F
    rw [LN_load_s0_l53_s]
    unfold LN_load_s0_n53 LN_load_s0_n104
    exact ok_t (nI_le (Nat.le_refl b) (by omega)) (ok_e (LN_forget_s _ _ _ _) (ok_e (Net_roads_s (ld_wf hw hok b (Nat.le_refl b)) h1) (ok_s ⟨rfl, rfl, rfl, rfl, rfl, h1⟩)))
theorem LN_load_s1_m {x2 x3 lr ns pr sr sz th wr : Int32} {nn cells : Nat → Int32} (h : th = 0) : LN_load_s1 x2 x3 lr ns pr sr sz th wr nn cells = some (-3, lr, pr, sr, wr, nn) := by
  unfold LN_load_s1
  rw [bnd_at LN_isSheet_s, if_neg (by decide), if_pos h]
theorem LN_load_s1_b {n m0 : Nat} {x2 x3 lr pr sr th wr : Int32} {nn cells : Nat → Int32} (hn : n ≤ 32) (hm : m0 ≤ 60) (h : ¬ th = 0) (hno : ¬ ldOk x2 x3 n m0 cells) : LN_load_s1 x2 x3 lr (nI n) pr sr (nI m0) th wr nn cells = some (-1, lr, pr, sr, wr, nn) := by
  obtain ⟨r, e, hr⟩ := LN_mayLoad_s (x2 := x2) (x3 := x3) (cells := cells) hn hm
  unfold LN_load_s1
  rw [bnd_at LN_isSheet_s, if_neg (by decide), if_neg h, bnd_at e, if_pos (hr.2 hno)]
theorem LN_load_s1_s {n m0 a b : Nat} {lr pr sr th wr : Int32} {nn cells : Nat → Int32} {adj : Nat → Nat → Bool} (hw : WF n adj) (hb : Lb nn adj) (hm : m0 ≤ 60) (h : ¬ th = 0) (hab : a + 2 * b ≤ m0) (hok : ∀ k, k < b → inb (cells (a + 2 * k)) n = true ∧ inb (cells (a + 2 * k + 1)) n = true ∧ cells (a + 2 * k) ≠ cells (a + 2 * k + 1)) : Ok (LN_load_s1 (nI a) (nI b) lr (nI n) pr sr (nI m0) th wr nn cells) (fun z => z.1 = nI (roadsN (ldA adj cells a b) n) - nI (roadsN adj n) ∧ z.2.1 = 0 ∧ z.2.2.1 = 0 ∧ z.2.2.2.1 = -1 ∧ z.2.2.2.2.1 = 0 ∧ Lb z.2.2.2.2.2 (ldA adj cells a b)) := by
  have hn := hw.1
  unfold LN_load_s1
  refine ok_e LN_isSheet_s (ok_f (by decide) (ok_f h (ok_b (LN_mayLoad_s hn hm) (fun r hr => ok_f (by rw [hr.1 ⟨a, b, rfl, rfl, hab, hok⟩]; decide) (ok_e (Net_roads_s hw hb) ?_)))))
  refine fr2 (fun F x nn => LN_load_s1_l53 (nI n) (nI m0) cells F (nI a) (nI b) (nI (roadsN adj n)) x lr pr sr wr nn) (fun k x nn => x = nI k ∧ Lb nn (ldA adj cells a k)) b (fuel_big (by omega)) ?_ ?_ 0 (Nat.zero_le _) 0 nn ⟨rfl, hb⟩
  · rintro k hk x nn ⟨rfl, h1⟩ F ih
    rw [LN_load_s1_l53_s]
    unfold LN_load_s1_n53
    rw [ix2, nI_1]
    refine ok_f (nI_ge hk (by omega)) (ok_e (Sh_read_s (by omega) hm _) (ok_e (Sh_read_s (by omega) hm _) ?_))
    obtain ⟨g1, g2, g3⟩ := hok k hk
    obtain ⟨p, hp, e1⟩ := inb_of g1 (by omega)
    obtain ⟨q, hq, e2⟩ := inb_of g2 (by omega)
    rw [e1, e2]
    refine ok_b (Net_join_s hn hp hq (fun e => g3 (by rw [e1, e2, e])) h1) (fun m h2 => ih _ _ ⟨nI_1 k, ?_⟩)
    unfold ldA
    rw [e1, e2, cl_nI (by omega), cl_nI (by omega)]
    exact h2
  · rintro x nn ⟨rfl, h1⟩ F
    rw [LN_load_s1_l53_s]
    unfold LN_load_s1_n53 LN_load_s1_n104
    exact ok_t (nI_le (Nat.le_refl b) (by omega)) (ok_e (LN_forget_s _ _ _ _) (ok_e (Net_roads_s (ld_wf hw hok b (Nat.le_refl b)) h1) (ok_s ⟨rfl, rfl, rfl, rfl, rfl, h1⟩)))
theorem LN_load_s2_m {x2 x3 lr ns pr sr sz th wr : Int32} {nn cells : Nat → Int32} (h : th = 0) : LN_load_s2 x2 x3 lr ns pr sr sz th wr nn cells = some (-3, lr, pr, sr, wr, nn) := by
  unfold LN_load_s2
  rw [bnd_at LN_isSheet_s, if_neg (by decide), if_pos h]
theorem LN_load_s2_b {n m0 : Nat} {x2 x3 lr pr sr th wr : Int32} {nn cells : Nat → Int32} (hn : n ≤ 32) (hm : m0 ≤ 60) (h : ¬ th = 0) (hno : ¬ ldOk x2 x3 n m0 cells) : LN_load_s2 x2 x3 lr (nI n) pr sr (nI m0) th wr nn cells = some (-1, lr, pr, sr, wr, nn) := by
  obtain ⟨r, e, hr⟩ := LN_mayLoad_s (x2 := x2) (x3 := x3) (cells := cells) hn hm
  unfold LN_load_s2
  rw [bnd_at LN_isSheet_s, if_neg (by decide), if_neg h, bnd_at e, if_pos (hr.2 hno)]
theorem LN_load_s2_s {n m0 a b : Nat} {lr pr sr th wr : Int32} {nn cells : Nat → Int32} {adj : Nat → Nat → Bool} (hw : WF n adj) (hb : Lb nn adj) (hm : m0 ≤ 60) (h : ¬ th = 0) (hab : a + 2 * b ≤ m0) (hok : ∀ k, k < b → inb (cells (a + 2 * k)) n = true ∧ inb (cells (a + 2 * k + 1)) n = true ∧ cells (a + 2 * k) ≠ cells (a + 2 * k + 1)) : Ok (LN_load_s2 (nI a) (nI b) lr (nI n) pr sr (nI m0) th wr nn cells) (fun z => z.1 = nI (roadsN (ldA adj cells a b) n) - nI (roadsN adj n) ∧ z.2.1 = 0 ∧ z.2.2.1 = 0 ∧ z.2.2.2.1 = -1 ∧ z.2.2.2.2.1 = 0 ∧ Lb z.2.2.2.2.2 (ldA adj cells a b)) := by
  have hn := hw.1
  unfold LN_load_s2
  refine ok_e LN_isSheet_s (ok_f (by decide) (ok_f h (ok_b (LN_mayLoad_s hn hm) (fun r hr => ok_f (by rw [hr.1 ⟨a, b, rfl, rfl, hab, hok⟩]; decide) (ok_e (Net_roads_s hw hb) ?_)))))
  refine fr2 (fun F x nn => LN_load_s2_l53 (nI n) (nI m0) cells F (nI a) (nI b) (nI (roadsN adj n)) x lr pr sr wr nn) (fun k x nn => x = nI k ∧ Lb nn (ldA adj cells a k)) b (fuel_big (by omega)) ?_ ?_ 0 (Nat.zero_le _) 0 nn ⟨rfl, hb⟩
  · rintro k hk x nn ⟨rfl, h1⟩ F ih
    rw [LN_load_s2_l53_s]
    unfold LN_load_s2_n53
    rw [ix2, nI_1]
    refine ok_f (nI_ge hk (by omega)) (ok_e (Sh_read_s (by omega) hm _) (ok_e (Sh_read_s (by omega) hm _) ?_))
    obtain ⟨g1, g2, g3⟩ := hok k hk
    obtain ⟨p, hp, e1⟩ := inb_of g1 (by omega)
    obtain ⟨q, hq, e2⟩ := inb_of g2 (by omega)
    rw [e1, e2]
    refine ok_b (Net_join_s hn hp hq (fun e => g3 (by rw [e1, e2, e])) h1) (fun m h2 => ih _ _ ⟨nI_1 k, ?_⟩)
    unfold ldA
    rw [e1, e2, cl_nI (by omega), cl_nI (by omega)]
    exact h2
  · rintro x nn ⟨rfl, h1⟩ F
    rw [LN_load_s2_l53_s]
    unfold LN_load_s2_n53 LN_load_s2_n104
    exact ok_t (nI_le (Nat.le_refl b) (by omega)) (ok_e (LN_forget_s _ _ _ _) (ok_e (Net_roads_s (ld_wf hw hok b (Nat.le_refl b)) h1) (ok_s ⟨rfl, rfl, rfl, rfl, rfl, h1⟩)))
theorem LN_load_s3_m {x2 x3 lr ns pr sr sz th wr : Int32} {nn cells : Nat → Int32} (h : th = 0) : LN_load_s3 x2 x3 lr ns pr sr sz th wr nn cells = some (-3, lr, pr, sr, wr, nn) := by
  unfold LN_load_s3
  rw [bnd_at LN_isSheet_s, if_neg (by decide), if_pos h]
theorem LN_load_s3_b {n m0 : Nat} {x2 x3 lr pr sr th wr : Int32} {nn cells : Nat → Int32} (hn : n ≤ 32) (hm : m0 ≤ 60) (h : ¬ th = 0) (hno : ¬ ldOk x2 x3 n m0 cells) : LN_load_s3 x2 x3 lr (nI n) pr sr (nI m0) th wr nn cells = some (-1, lr, pr, sr, wr, nn) := by
  obtain ⟨r, e, hr⟩ := LN_mayLoad_s (x2 := x2) (x3 := x3) (cells := cells) hn hm
  unfold LN_load_s3
  rw [bnd_at LN_isSheet_s, if_neg (by decide), if_neg h, bnd_at e, if_pos (hr.2 hno)]
theorem LN_load_s3_s {n m0 a b : Nat} {lr pr sr th wr : Int32} {nn cells : Nat → Int32} {adj : Nat → Nat → Bool} (hw : WF n adj) (hb : Lb nn adj) (hm : m0 ≤ 60) (h : ¬ th = 0) (hab : a + 2 * b ≤ m0) (hok : ∀ k, k < b → inb (cells (a + 2 * k)) n = true ∧ inb (cells (a + 2 * k + 1)) n = true ∧ cells (a + 2 * k) ≠ cells (a + 2 * k + 1)) : Ok (LN_load_s3 (nI a) (nI b) lr (nI n) pr sr (nI m0) th wr nn cells) (fun z => z.1 = nI (roadsN (ldA adj cells a b) n) - nI (roadsN adj n) ∧ z.2.1 = 0 ∧ z.2.2.1 = 0 ∧ z.2.2.2.1 = -1 ∧ z.2.2.2.2.1 = 0 ∧ Lb z.2.2.2.2.2 (ldA adj cells a b)) := by
  have hn := hw.1
  unfold LN_load_s3
  refine ok_e LN_isSheet_s (ok_f (by decide) (ok_f h (ok_b (LN_mayLoad_s hn hm) (fun r hr => ok_f (by rw [hr.1 ⟨a, b, rfl, rfl, hab, hok⟩]; decide) (ok_e (Net_roads_s hw hb) ?_)))))
  refine fr2 (fun F x nn => LN_load_s3_l53 (nI n) (nI m0) cells F (nI a) (nI b) (nI (roadsN adj n)) x lr pr sr wr nn) (fun k x nn => x = nI k ∧ Lb nn (ldA adj cells a k)) b (fuel_big (by omega)) ?_ ?_ 0 (Nat.zero_le _) 0 nn ⟨rfl, hb⟩
  · rintro k hk x nn ⟨rfl, h1⟩ F ih
    rw [LN_load_s3_l53_s]
    unfold LN_load_s3_n53
    rw [ix2, nI_1]
    refine ok_f (nI_ge hk (by omega)) (ok_e (Sh_read_s (by omega) hm _) (ok_e (Sh_read_s (by omega) hm _) ?_))
    obtain ⟨g1, g2, g3⟩ := hok k hk
    obtain ⟨p, hp, e1⟩ := inb_of g1 (by omega)
    obtain ⟨q, hq, e2⟩ := inb_of g2 (by omega)
    rw [e1, e2]
    refine ok_b (Net_join_s hn hp hq (fun e => g3 (by rw [e1, e2, e])) h1) (fun m h2 => ih _ _ ⟨nI_1 k, ?_⟩)
    unfold ldA
    rw [e1, e2, cl_nI (by omega), cl_nI (by omega)]
    exact h2
  · rintro x nn ⟨rfl, h1⟩ F
    rw [LN_load_s3_l53_s]
    unfold LN_load_s3_n53 LN_load_s3_n104
    exact ok_t (nI_le (Nat.le_refl b) (by omega)) (ok_e (LN_forget_s _ _ _ _) (ok_e (Net_roads_s (ld_wf hw hok b (Nat.le_refl b)) h1) (ok_s ⟨rfl, rfl, rfl, rfl, rfl, h1⟩)))
theorem LN_load_so_s {x1 x2 x3 : Int32} (h : inb x1 4 = false) : LN_load_so x1 x2 x3 = some (-1) := by
  unfold LN_load_so
  rw [bnd_at LN_isSheet_s, h, if_pos (show bI false = 0 from rfl)]
theorem M_load_o {x1 x2 x3 ak im ps : Int32} {ce road si : Nat → Int32} (h : inb x1 4 = false) : M_load x1 x2 x3 ak im ps ce road si = some (-1, ak, im, road) := by
  unfold M_load
  rw [bnd_at M_isSheet_s, h, if_pos (show bI false = 0 from rfl)]
theorem M_load_m {r : Nat} {x2 x3 ak im ps : Int32} {ce road si : Nat → Int32} (hr : r < 4) (h : si r = -1) : M_load (nI r) x2 x3 ak im ps ce road si = some (-3, ak, im, road) := by
  unfold M_load
  rw [bnd_at M_isSheet_s, inb_nI hr (by omega), if_neg (by decide), gd_t rfl, cl_nI (by omega), h, if_neg (by decide)]
theorem ix60 (r a k : Nat) : (60 : Int32) * nI r + nI a + 2 * nI k = nI (60 * r + (a + 2 * k)) := by
  rw [i60, ix2, Nat.add_assoc]
theorem M_load_b {r n m0 : Nat} {x2 x3 ak im : Int32} {ce road si : Nat → Int32} (hr : r < 4) (hn : n ≤ 32) (hm : m0 ≤ 60) (h : si r = nI m0) (hno : ¬ ldOk x2 x3 n m0 (fun j => ce (60 * r + j))) : M_load (nI r) x2 x3 ak im (nI n) ce road si = some (-1, ak, im, road) := by
  unfold M_load M_load_n49
  apply ok_eq
  refine ok_e M_isSheet_s ?_
  rw [inb_nI hr (by omega), cl_nI (by omega), h]
  refine ok_f (by decide) (ok_g rfl (ok_t (nI_pos' (by omega)) (ok_i (fun c => ok_s rfl) (fun c => ok_i (fun c2 => ok_s rfl) (fun c2 => ?_)))))
  obtain ⟨a, ha, rfl⟩ := nI_of c
  obtain ⟨b, hb, rfl⟩ := nI_of c2
  refine ok_i (fun c3 => ?_) (fun c3 => ok_s rfl)
  have c3 := (ld_long ha hb hm).mp c3
  refine fr1 (fun F x => M_load_l54 (nI n) ce F (nI r) (nI a) (nI b) x ak im road) (fun k x => x = nI k ∧ ∀ j, j < k → inb (ce (60 * r + (a + 2 * j))) n = true ∧ inb (ce (60 * r + (a + 2 * j + 1))) n = true ∧ ce (60 * r + (a + 2 * j)) ≠ ce (60 * r + (a + 2 * j + 1))) b (fuel_big (by omega)) ?_ ?_ 0 (Nat.zero_le _) 0 ⟨rfl, all_none⟩
  · rintro k hk x ⟨rfl, h1⟩ F ih
    rw [M_load_l54_s]
    unfold M_load_n54 M_load_n123
    rw [ix60, nI_1, cl_nI (by omega), cl_nI (by omega)]
    refine ok_f (nI_ge hk (by omega)) (ok_g (inb_nI (by omega) (by omega)) (ok_l (ok_g (inb_nI (by omega) (by omega)) (ok_l (ok_e (M_isPost_s (by omega)) (ok_i (fun _ => ok_s rfl) (fun g1 => ok_e (M_isPost_s (by omega)) (ok_i (fun _ => ok_s rfl) (fun g2 => ok_i (fun _ => ok_s rfl) (fun g3 => ih _ ⟨nI_1 k, all_next.mpr ⟨h1, ?_, ?_, g3⟩⟩))))))))))
    · cases e : inb (ce (60 * r + (a + 2 * k))) n
      · rw [e] at g1; exact absurd rfl g1
      · rfl
    · cases e : inb (ce (60 * r + (a + 2 * k) + 1)) n
      · rw [e] at g2; exact absurd rfl g2
      · rfl
  · rintro x ⟨rfl, h1⟩ F
    exact absurd ⟨a, b, rfl, rfl, c3, h1⟩ hno
theorem M_load_s {r n m0 a b : Nat} {ak im : Int32} {ce road si : Nat → Int32} {adj : Nat → Nat → Bool} (hr : r < 4) (hw : WF n adj) (hb : Mb road adj) (hm : m0 ≤ 60) (h : si r = nI m0) (hab : a + 2 * b ≤ m0) (hok : ∀ k, k < b → inb (ce (60 * r + (a + 2 * k))) n = true ∧ inb (ce (60 * r + (a + 2 * k + 1))) n = true ∧ ce (60 * r + (a + 2 * k)) ≠ ce (60 * r + (a + 2 * k + 1))) : Ok (M_load (nI r) (nI a) (nI b) ak im (nI n) ce road si) (fun z => z.1 = nI (roadsN (ldA adj (fun j => ce (60 * r + j)) a b) n) - nI (roadsN adj n) ∧ ((b = 0 ∧ z.2.1 = ak ∧ z.2.2.1 = im) ∨ (z.2.1 = 0 ∧ z.2.2.1 = 0)) ∧ Mb z.2.2.2 (ldA adj (fun j => ce (60 * r + j)) a b)) := by
  have hn := hw.1
  unfold M_load
  refine ok_e M_isSheet_s ?_
  rw [inb_nI hr (by omega), cl_nI (by omega), h]
  refine ok_f (by decide) (ok_g rfl (ok_t (nI_pos' (by omega)) (ok_f (nI_pos (by omega)) (ok_f (nI_pos (by omega)) (ok_t ((ld_long (by omega) (by omega) hm).mpr hab) ?_)))))
  refine fr1 (fun F x => M_load_l54 (nI n) ce F (nI r) (nI a) (nI b) x ak im road) (fun k x => x = nI k) b (fuel_big (by omega)) ?_ ?_ 0 (Nat.zero_le _) 0 rfl
  · rintro k hk x rfl F ih
    rw [M_load_l54_s]
    unfold M_load_n54
    rw [ix60, nI_1, cl_nI (by omega), cl_nI (by omega)]
    obtain ⟨g1, g2, g3⟩ := hok k hk
    refine ok_f (nI_ge hk (by omega)) (ok_g (inb_nI (by omega) (by omega)) (ok_l (ok_g (inb_nI (by omega) (by omega)) (ok_l (ok_e (M_isPost_s (by omega)) (ok_f (by rw [g1]; decide) (ok_e (M_isPost_s (by omega)) (ok_f ?_ (ok_f g3 (ih _ (nI_1 k)))))))))))
    rw [show inb (ce (60 * r + (a + 2 * k) + 1)) n = true from g2]; decide
  · rintro x rfl F
    rw [M_load_l54_s]
    unfold M_load_n54 M_load_n131
    refine ok_t (nI_le (Nat.le_refl b) (by omega)) ?_
    have hge : ∀ k, k ≤ b → roadsN adj n ≤ roadsN (ldA adj (fun j => ce (60 * r + j)) a k) n := by
      intro k
      induction k with
      | zero => intro _; exact Nat.le_refl _
      | succ k ih =>
        intro hk
        obtain ⟨g1, g2, g3⟩ := hok k (by omega)
        obtain ⟨p, hp, e1⟩ := inb_of g1 (by omega)
        obtain ⟨q, hq, e2⟩ := inb_of g2 (by omega)
        have := roads_set (ld_wf (c := fun j => ce (60 * r + j)) hw hok k (by omega)) hp hq (fun e => g3 (by rw [e1, e2, e]))
        have e3 : ldA adj (fun j => ce (60 * r + j)) a (k + 1) = setA (ldA adj (fun j => ce (60 * r + j)) a k) p q true := by
          show setA _ (ce (60 * r + (a + 2 * k))).toNatClampNeg (ce (60 * r + (a + 2 * k + 1))).toNatClampNeg true = _
          rw [e1, e2, cl_nI (by omega), cl_nI (by omega)]
        rw [e3, this]
        have := ih (by omega)
        omega
    refine fr5 (fun F c x ak im road => M_load_l137 ce F (nI r) (nI a) (nI b) c x ak im road) (fun k c x ak2 im2 road => c = nI (roadsN (ldA adj (fun j => ce (60 * r + j)) a k) n - roadsN adj n) ∧ x = nI k ∧ ((k = 0 ∧ ak2 = ak ∧ im2 = im) ∨ (ak2 = 0 ∧ im2 = 0)) ∧ Mb road (ldA adj (fun j => ce (60 * r + j)) a k)) b (fuel_big (by omega)) ?_ ?_ 0 (Nat.zero_le _) 0 0 ak im road ⟨by rw [show ldA adj (fun j => ce (60 * r + j)) a 0 = adj from rfl, Nat.sub_self]; rfl, rfl, Or.inl ⟨rfl, rfl, rfl⟩, hb⟩
    · rintro k hk c x ak2 im2 road ⟨rfl, rfl, h1, h2⟩ F ih
      rw [M_load_l137_s]
      unfold M_load_n137 M_load_n192
      rw [ix60, nI_1, cl_nI (by omega), cl_nI (by omega)]
      obtain ⟨g1, g2, g3⟩ := hok k hk
      obtain ⟨p, hp, e1⟩ := inb_of g1 (by omega)
      obtain ⟨q, hq, e2⟩ := inb_of g2 (by omega)
      have hrs := roads_set (ld_wf (c := fun j => ce (60 * r + j)) hw hok k (by omega)) hp hq (fun e => g3 (by rw [e1, e2, e]))
      have e3 : ldA adj (fun j => ce (60 * r + j)) a (k + 1) = setA (ldA adj (fun j => ce (60 * r + j)) a k) p q true := by
        show setA _ (ce (60 * r + (a + 2 * k))).toNatClampNeg (ce (60 * r + (a + 2 * k + 1))).toNatClampNeg true = _
        rw [e1, e2, cl_nI (by omega), cl_nI (by omega)]
      have hg := hge k (by omega)
      rw [show 60 * r + (a + 2 * k) + 1 = 60 * r + (a + 2 * k + 1) from rfl, e1, e2]
      refine ok_f (nI_ge hk (by omega)) (ok_g (inb_nI (by omega) (by omega)) (ok_g (inb_nI (by omega) (by omega)) (ok_b (M_lay_s (v := true) (by omega) (by omega) h2) (fun z hz => ?_))))
      rw [hz.1]
      cases hv : ldA adj (fun j => ce (60 * r + j)) a k p q
      · rw [hv, if_neg (by decide)] at hrs
        refine ok_f (by decide) (ih _ _ _ _ _ ⟨?_, nI_1 k, Or.inr ⟨hz.2.1, hz.2.2.1⟩, by rw [e3]; exact hz.2.2.2⟩)
        rw [e3, hrs, nI_1]
        exact congrArg nI (by omega)
      · rw [hv, if_pos rfl] at hrs
        refine ok_t (by decide) (ih _ _ _ _ _ ⟨?_, nI_1 k, Or.inr ⟨hz.2.1, hz.2.2.1⟩, by rw [e3]; exact hz.2.2.2⟩)
        rw [e3, hrs, show (0 : Int32) = nI 0 from rfl, nI_add]
        rfl
    · rintro c x ak2 im2 road ⟨rfl, rfl, h1, h2⟩ F
      rw [M_load_l137_s]
      unfold M_load_n137 M_load_n201
      refine ok_t (nI_le (Nat.le_refl b) (by omega)) (ok_s ⟨?_, h1, h2⟩)
      show nI (_ - _) = _
      rw [pk_sub (hge b (Nat.le_refl b))]
