/-! nets made road by road: pairs a < b in order, joined where t holds -/
def jn (N : Nat) (t : Nat → Nat → Bool) (p q : Nat) : Nat → Nat → Bool := fun a b => decide ((a < b ∧ b < N ∧ (a < p ∨ (a = p ∧ b < q)) ∧ t a b = true) ∨ (b < a ∧ a < N ∧ (b < p ∨ (b = p ∧ a < q)) ∧ t b a = true))
def jnA (N : Nat) (t : Nat → Nat → Bool) : Nat → Nat → Bool := fun a b => decide ((a < b ∧ b < N ∧ t a b = true) ∨ (b < a ∧ a < N ∧ t b a = true))
theorem jn_ext {N p q p2 q2 : Nat} {t : Nat → Nat → Bool} (h : ∀ a b, a < b → b < N → t a b = true → ((a < p ∨ (a = p ∧ b < q)) ↔ (a < p2 ∨ (a = p2 ∧ b < q2)))) : jn N t p q = jn N t p2 q2 := by
  funext a b
  unfold jn
  apply decide_eq_decide.mpr
  constructor
  · rintro (⟨h1, h2, h3, h4⟩ | ⟨h1, h2, h3, h4⟩)
    · exact Or.inl ⟨h1, h2, (h a b h1 h2 h4).mp h3, h4⟩
    · exact Or.inr ⟨h1, h2, (h b a h1 h2 h4).mp h3, h4⟩
  · rintro (⟨h1, h2, h3, h4⟩ | ⟨h1, h2, h3, h4⟩)
    · exact Or.inl ⟨h1, h2, (h a b h1 h2 h4).mpr h3, h4⟩
    · exact Or.inr ⟨h1, h2, (h b a h1 h2 h4).mpr h3, h4⟩
theorem jn_0 {N : Nat} {t : Nat → Nat → Bool} : jn N t 0 0 = fun _ _ => false := by
  funext a b
  unfold jn
  apply decide_eq_false
  rintro (⟨h1, h2, h3, h4⟩ | ⟨h1, h2, h3, h4⟩) <;> omega
theorem jn_row {N p : Nat} {t : Nat → Nat → Bool} : jn N t p (p + 1) = jn N t p 0 := jn_ext (fun a b h1 h2 _ => by omega)
theorem jn_end {N p : Nat} {t : Nat → Nat → Bool} : jn N t p N = jn N t (p + 1) 0 := jn_ext (fun a b h1 h2 _ => by omega)
theorem jn_no {N p q : Nat} {t : Nat → Nat → Bool} (ht : t p q = false) : jn N t p (q + 1) = jn N t p q := jn_ext (fun a b h1 h2 h3 => by
  by_cases e : a = p ∧ b = q
  · obtain ⟨rfl, rfl⟩ := e; rw [ht] at h3; cases h3
  · omega)
theorem jn_yes {N p q : Nat} {t : Nat → Nat → Bool} (hpq : p < q) (hq : q < N) (ht : t p q = true) : setA (jn N t p q) p q true = jn N t p (q + 1) := by
  funext a b
  unfold setA
  by_cases c : (a = p ∧ b = q) ∨ (a = q ∧ b = p)
  · rw [if_pos c]
    symm
    apply decide_eq_true
    rcases c with ⟨rfl, rfl⟩ | ⟨rfl, rfl⟩
    · exact Or.inl ⟨hpq, hq, Or.inr ⟨rfl, by omega⟩, ht⟩
    · exact Or.inr ⟨hpq, hq, Or.inr ⟨rfl, by omega⟩, ht⟩
  · rw [if_neg c]
    unfold jn
    apply decide_eq_decide.mpr
    constructor
    · rintro (⟨h1, h2, h3, h4⟩ | ⟨h1, h2, h3, h4⟩)
      · exact Or.inl ⟨h1, h2, by omega, h4⟩
      · exact Or.inr ⟨h1, h2, by omega, h4⟩
    · rintro (⟨h1, h2, h3, h4⟩ | ⟨h1, h2, h3, h4⟩)
      · exact Or.inl ⟨h1, h2, by omega, h4⟩
      · exact Or.inr ⟨h1, h2, by omega, h4⟩
theorem jn_all {N p : Nat} {t : Nat → Nat → Bool} (h : ∀ a b, a < b → b < N → t a b = true → a < p) : jn N t p 0 = jnA N t := by
  funext a b
  unfold jn jnA
  apply decide_eq_decide.mpr
  constructor
  · rintro (⟨h1, h2, h3, h4⟩ | ⟨h1, h2, h3, h4⟩)
    · exact Or.inl ⟨h1, h2, h4⟩
    · exact Or.inr ⟨h1, h2, h4⟩
  · rintro (⟨h1, h2, h4⟩ | ⟨h1, h2, h4⟩)
    · exact Or.inl ⟨h1, h2, Or.inl (h a b h1 h2 h4), h4⟩
    · exact Or.inr ⟨h1, h2, Or.inl (h b a h1 h2 h4), h4⟩
theorem WF_jnA {N : Nat} {t : Nat → Nat → Bool} (hN : N ≤ 32) : WF N (jnA N t) := by
  refine ⟨hN, fun a b => ?_, fun a => ?_, fun a b h => ?_⟩
  · unfold jnA
    apply decide_eq_decide.mpr
    exact ⟨Or.symm, Or.symm⟩
  · unfold jnA
    apply decide_eq_false
    rintro (⟨h1, _⟩ | ⟨h1, _⟩) <;> omega
  · unfold jnA at h
    rcases of_decide_eq_true h with ⟨h1, h2, _⟩ | ⟨h1, h2, _⟩ <;> omega
theorem jnA_lt {N a b : Nat} {t : Nat → Nat → Bool} (h : a < b) (hb : b < N) : jnA N t a b = t a b := by
  refine bt_iff ?_
  unfold jnA
  rw [decide_eq_true_iff]
  constructor
  · rintro (⟨_, _, h3⟩ | ⟨h3, _⟩)
    · exact h3
    · omega
  · exact fun h3 => Or.inl ⟨h, hb, h3⟩
/-- a net of N posts is told by its pairs a < b -/
theorem net_ext {N : Nat} {A B : Nat → Nat → Bool} (hA : WF N A) (hB : WF N B) (h : ∀ a b, a < b → b < N → A a b = B a b) : A = B := by
  funext a b
  by_cases c : a < N ∧ b < N
  · rcases Nat.lt_or_ge a b with g | g
    · exact h a b g c.2
    · by_cases e : a = b
      · rw [e, hA.2.2.1, hB.2.2.1]
      · rw [hA.2.1, hB.2.1 a b]; exact h b a (by omega) c.1
  · have x : A a b = false := by
      cases hv : A a b
      · rfl
      · exact absurd (hA.2.2.2 a b hv) c
    have y : B a b = false := by
      cases hv : B a b
      · rfl
      · exact absurd (hB.2.2.2 a b hv) c
    rw [x, y]
/-! rows written one by one -/
def pn (n : Nat) (T : Nat → Nat → Bool) (p q : Nat) : Nat → Nat → Bool := fun a b => decide (a < n ∧ b < n ∧ (a < p ∨ (a = p ∧ b < q)) ∧ T a b = true)
def pnA (n : Nat) (T : Nat → Nat → Bool) : Nat → Nat → Bool := fun a b => decide (a < n ∧ b < n ∧ T a b = true)
theorem pn_0 {n : Nat} {T : Nat → Nat → Bool} : pn n T 0 0 = fun _ _ => false := by
  funext a b
  unfold pn
  apply decide_eq_false
  rintro ⟨h1, h2, h3, h4⟩
  omega
theorem pn_end {n p : Nat} {T : Nat → Nat → Bool} : pn n T p n = pn n T (p + 1) 0 := by
  funext a b
  unfold pn
  apply decide_eq_decide.mpr
  constructor
  · rintro ⟨h1, h2, h3, h4⟩; exact ⟨h1, h2, by omega, h4⟩
  · rintro ⟨h1, h2, h3, h4⟩; exact ⟨h1, h2, by omega, h4⟩
theorem pn_all {n : Nat} {T : Nat → Nat → Bool} : pn n T n 0 = pnA n T := by
  funext a b
  unfold pn pnA
  apply decide_eq_decide.mpr
  constructor
  · rintro ⟨h1, h2, h3, h4⟩; exact ⟨h1, h2, h4⟩
  · rintro ⟨h1, h2, h4⟩; exact ⟨h1, h2, by omega, h4⟩
theorem Mb_pn {n p q : Nat} {T : Nat → Nat → Bool} {new : Nat → Int32} (hn : n ≤ 32) (hp : p < n) (hq : q < n) (h : Mb new (pn n T p q)) : Mb (upd new (32 * p + q) (bI (T p q))) (pn n T p (q + 1)) := by
  intro a ha b hb
  by_cases e : a = p ∧ b = q
  · obtain ⟨rfl, rfl⟩ := e
    rw [updS, bI_inj]
    unfold pn
    cases ht : T a b
    · exact (decide_eq_false (fun g => by cases g.2.2.2)).symm
    · exact (decide_eq_true ⟨hp, hq, Or.inr ⟨rfl, by omega⟩, rfl⟩).symm
  · rw [updN (by omega), h a ha b hb, bI_inj]
    unfold pn
    apply decide_eq_decide.mpr
    constructor
    · rintro ⟨h1, h2, h3, h4⟩; exact ⟨h1, h2, by omega, h4⟩
    · rintro ⟨h1, h2, h3, h4⟩; exact ⟨h1, h2, by omega, h4⟩
theorem Mb_set {p q : Nat} {A : Nat → Nat → Bool} {new : Nat → Int32} (hp : p < 32) (hq : q < 32) (h : Mb new A) : Mb (upd (upd new (32 * p + q) 1) (32 * q + p) 1) (setA A p q true) := by
  intro a ha b hb
  unfold setA
  by_cases c1 : a = q ∧ b = p
  · obtain ⟨rfl, rfl⟩ := c1
    rw [updS, if_pos (by omega)]; rfl
  · rw [updN (by omega)]
    by_cases c2 : a = p ∧ b = q
    · obtain ⟨rfl, rfl⟩ := c2
      rw [updS, if_pos (by omega)]; rfl
    · rw [updN (by omega), h a ha b hb, if_neg (by omega)]
/-! what a call leaves that makes a new net -/
def LFr (A : Nat → Nat → Bool) (m : Nat) (lr ns pr sr wr : Int32) (nn : Nat → Int32) : Prop := lr = 0 ∧ ns = nI m ∧ pr = 0 ∧ sr = -1 ∧ wr = 0 ∧ Lb nn A
def MFr (A : Nat → Nat → Bool) (m : Nat) (ak im ps : Int32) (road : Nat → Int32) : Prop := ak = 0 ∧ im = 0 ∧ ps = nI m ∧ Mb road A
theorem LN_adopt_s {m : Nat} {lr ns pr sr wr : Int32} {mn nn : Nat → Int32} {A : Nat → Nat → Bool} (h : Lb mn A) : Ok (LN_adopt lr (nI m) ns pr sr wr mn nn) (fun z => z.1 = nI m ∧ LFr A m z.2.1 z.2.2.1 z.2.2.2.1 z.2.2.2.2.1 z.2.2.2.2.2.1 z.2.2.2.2.2.2) := by
  unfold LN_adopt
  refine ok_b (Net_copyFrom_s _ _ _ _) (fun z hz => ok_e (LN_forget_s _ _ _ _) (ok_s ⟨hz.1, rfl, hz.1, rfl, rfl, rfl, Lb_of h hz.2⟩))
theorem M_become_f {m : Nat} {k1 k2 p0 : Int32} {new road : Nat → Int32} {A : Nat → Nat → Bool} (h : Mb new A) : Ok (M_become (nI m) k1 k2 p0 new road) (fun z => MFr A m z.1 z.2.1 z.2.2.1 z.2.2.2) := ok_of (M_become_s (nI m) k1 k2 p0 new road (Mb_isb h)) ⟨rfl, rfl, rfl, Mb_of h (fun j hj => fa_fill_in hj)⟩
theorem Net_empty_f (x size : Int32) (near : Nat → Int32) : Ok (Net_empty x size near) (fun z => z.1 = x ∧ Lb z.2 (fun _ _ => false)) := ok_of (Net_empty_s x size near) ⟨rfl, Lb_empty near⟩
theorem M_clearNew_f (new : Nat → Int32) : Ok (M_clearNew new) (fun z => Mb z (fun _ _ => false)) := ok_of (M_clearNew_s new) (Mb_empty new)
theorem pnA_t {n a b : Nat} {T : Nat → Nat → Bool} : pnA n T a b = true ↔ a < n ∧ b < n ∧ T a b = true := by
  unfold pnA
  exact decide_eq_true_iff
theorem WF_pnA {n : Nat} {T : Nat → Nat → Bool} (hn : n ≤ 32) (h1 : ∀ a b, T a b = T b a) (h2 : ∀ a, T a a = false) : WF n (pnA n T) := by
  refine ⟨hn, fun a b => bt_iff ?_, fun a => ?_, fun a b h => ⟨(pnA_t.mp h).1, (pnA_t.mp h).2.1⟩⟩
  · rw [pnA_t, pnA_t, h1 a b]
    exact ⟨fun h => ⟨h.2.1, h.1, h.2.2⟩, fun h => ⟨h.2.1, h.1, h.2.2⟩⟩
  · cases e : pnA n T a a
    · rfl
    · have := (pnA_t.mp e).2.2
      rw [h2] at this; cases this
theorem pnA_jnA {n : Nat} {T t : Nat → Nat → Bool} (hn : n ≤ 32) (h1 : ∀ a b, T a b = T b a) (h2 : ∀ a, T a a = false) (h3 : ∀ a b, a < b → b < n → T a b = t a b) : pnA n T = jnA n t := by
  refine net_ext (WF_pnA hn h1 h2) (WF_jnA hn) (fun a b ha hb => bt_iff ?_)
  rw [jnA_lt ha hb, pnA_t, h3 a b ha hb]
  exact ⟨fun h => h.2.2, fun h => ⟨by omega, hb, h⟩⟩
/-! other -/
def othA (adj : Nat → Nat → Bool) (n : Nat) : Nat → Nat → Bool := jnA n (fun a b => !adj a b)
theorem LN_other_s {n : Nat} {lr ms pr sr wr : Int32} {mn nn : Nat → Int32} {adj : Nat → Nat → Bool} (hw : WF n adj) (hb : Lb nn adj) : Ok (LN_other lr ms (nI n) pr sr wr mn nn) (fun z => z.1 = nI (roadsN (othA adj n) n) ∧ LFr (othA adj n) n z.2.1 z.2.2.2.1 z.2.2.2.2.1 z.2.2.2.2.2.1 z.2.2.2.2.2.2.1 z.2.2.2.2.2.2.2.2) := by
  have hn := hw.1
  unfold LN_other
  refine ok_b (Net_empty_f _ _ _) (fun z hz => ?_)
  obtain ⟨z1, z2⟩ := z
  obtain ⟨rfl, hz⟩ : z1 = nI n ∧ Lb z2 (fun _ _ => false) := hz
  refine fr2 (fun F x m => LN_other_l16 F x lr (nI n) (nI n) pr sr wr m nn) (fun p x m => x = nI p ∧ Lb m (jn n (fun a b => !adj a b) p 0)) n (fuel_big (by omega)) ?_ ?_ 0 (Nat.zero_le _) 0 z2 ⟨rfl, by rw [jn_0]; exact hz⟩
  · rintro p hp x m ⟨rfl, h1⟩ F ih
    rw [LN_other_l16_s]
    unfold LN_other_n16
    refine ok_f (nI_ge hp (by omega)) ?_
    refine fr2 (fun F x m => LN_other_l31 _ F (nI p) x lr (nI n) (nI n) pr sr wr m nn) (fun q x m => x = nI q ∧ p < q ∧ Lb m (jn n (fun a b => !adj a b) p q)) n (fuel_big (by omega)) ?_ ?_ (p + 1) (by omega) _ m ⟨nI_1 p, by omega, by rw [jn_row]; exact h1⟩
    · rintro q hq x m ⟨rfl, hpq, h2⟩ F2 ih2
      rw [LN_other_l31_s]
      unfold LN_other_n31 LN_other_n63
      refine ok_f (nI_ge hq (by omega)) (ok_e (Net_areJoined_s hn hb) ?_)
      rw [inb_nI hp (by omega), inb_nI hq (by omega), cl_nI (by omega), cl_nI (by omega)]
      cases ha : adj p q
      · refine ok_t (by decide) (ok_b (Net_join_s hn hp hq (by omega) h2) (fun m2 h3 => ih2 _ _ ⟨nI_1 q, by omega, ?_⟩))
        rw [← jn_yes hpq hq (by rw [ha]; rfl)]; exact h3
      · refine ok_f (by decide) (ih2 _ _ ⟨nI_1 q, by omega, ?_⟩)
        rw [jn_no (by rw [ha]; rfl)]; exact h2
    · rintro x m ⟨rfl, hpq, h2⟩ F2
      rw [LN_other_l31_s]
      unfold LN_other_n31 LN_other_n69
      exact ok_t (nI_le (Nat.le_refl n) (by omega)) (ih _ _ ⟨nI_1 p, by rw [← jn_end]; exact h2⟩)
  · rintro x m ⟨rfl, h1⟩ F
    rw [LN_other_l16_s]
    unfold LN_other_n16 LN_other_n75
    rw [jn_all (fun a b h2 h3 _ => by omega)] at h1
    refine ok_t (nI_le (Nat.le_refl n) (by omega)) (ok_b (LN_adopt_s h1) (fun y hy => ?_))
    refine ok_e (by rw [hy.2.2.1]; exact Net_roads_s (WF_jnA hn) hy.2.2.2.2.2.2) (ok_s ⟨rfl, hy.2⟩)
theorem M_other_s {n : Nat} {ak im : Int32} {new road : Nat → Int32} {adj : Nat → Nat → Bool} (hw : WF n adj) (hb : Mb road adj) : Ok (M_other ak im (nI n) new road) (fun z => z.1 = nI (roadsN (othA adj n) n) ∧ MFr (othA adj n) n z.2.1 z.2.2.1 z.2.2.2.1 z.2.2.2.2.2) := by
  have hn := hw.1
  obtain ⟨T, hT⟩ : ∃ T : Nat → Nat → Bool, T = fun a b => !decide (a = b) && !adj a b := ⟨_, rfl⟩
  have hTv : ∀ a b, T a b = (!decide (a = b) && !adj a b) := fun a b => by rw [hT]
  have hTe : pnA n T = othA adj n := by
    refine pnA_jnA hn (fun a b => ?_) (fun a => ?_) (fun a b h1 h2 => ?_)
    · rw [hTv, hTv, hw.2.1 a b, show decide (a = b) = decide (b = a) from decide_eq_decide.mpr ⟨Eq.symm, Eq.symm⟩]
    · rw [hTv, decide_eq_true rfl]; rfl
    · rw [hTv, decide_eq_false (by omega)]; rfl
  unfold M_other
  refine ok_b (M_clearNew_f _) (fun z hz => ?_)
  refine fr2 (fun F x m => M_other_l6 F x ak im (nI n) m road) (fun p x m => x = nI p ∧ Mb m (pn n T p 0)) n (fuel_big (by omega)) ?_ ?_ 0 (Nat.zero_le _) 0 z ⟨rfl, by rw [pn_0]; exact hz⟩
  · rintro p hp x m ⟨rfl, h1⟩ F ih
    rw [M_other_l6_s]
    unfold M_other_n6
    refine ok_f (nI_ge hp (by omega)) ?_
    refine fr2 (fun F x m => M_other_l16 _ F (nI p) x ak im (nI n) m road) (fun q x m => x = nI q ∧ Mb m (pn n T p q)) n (fuel_big (by omega)) ?_ ?_ 0 (Nat.zero_le _) 0 m ⟨rfl, h1⟩
    · rintro q hq x m ⟨rfl, h2⟩ F2 ih2
      rw [M_other_l16_s]
      unfold M_other_n16 M_other_n57 M_other_n58
      rw [i32, cl_nI (by omega), hb p (by omega) q (by omega)]
      have h3 := Mb_pn hn hp hq h2
      refine ok_f (nI_ge hq (by omega)) (ok_i (fun c => ok_g (inb_nI (by omega) (by omega)) (ok_g isb_0 (ih2 _ _ ⟨nI_1 q, ?_⟩))) (fun c => ok_g (inb_nI (by omega) (by omega)) (ok_i (fun c2 => ok_g (inb_nI (by omega) (by omega)) (ok_g isb_1 (ih2 _ _ ⟨nI_1 q, ?_⟩))) (fun c2 => ok_g (inb_nI (by omega) (by omega)) (ok_g isb_0 (ih2 _ _ ⟨nI_1 q, ?_⟩))))))
      · rw [nI_eq (by omega) (by omega)] at c
        have : T p q = false := by rw [hT]; show (!decide (p = q) && !adj p q) = false; rw [decide_eq_true c]; rfl
        rw [this] at h3; exact h3
      · rw [nI_eq (by omega) (by omega)] at c
        have : T p q = true := by rw [hT]; show (!decide (p = q) && !adj p q) = true; rw [decide_eq_false c, bI_eq0.mp c2]; rfl
        rw [this] at h3; exact h3
      · rw [nI_eq (by omega) (by omega)] at c
        have : T p q = false := by
          rw [hT]; show (!decide (p = q) && !adj p q) = false
          cases ha : adj p q
          · rw [ha] at c2; exact absurd rfl c2
          · rw [Bool.not_true, Bool.and_false]
        rw [this] at h3; exact h3
    · rintro x m ⟨rfl, h2⟩ F2
      rw [M_other_l16_s]
      unfold M_other_n16 M_other_n65
      exact ok_t (nI_le (Nat.le_refl n) (by omega)) (ih _ _ ⟨nI_1 p, by rw [← pn_end]; exact h2⟩)
  · rintro x m ⟨rfl, h1⟩ F
    rw [M_other_l6_s]
    unfold M_other_n6 M_other_n71
    rw [pn_all, hTe] at h1
    refine ok_t (nI_le (Nat.le_refl n) (by omega)) (ok_b (M_become_f h1) (fun y hy => ?_))
    exact ok_e (by rw [hy.2.2.1]; exact M_roads_s hn hy.2.2.2) (ok_s ⟨rfl, hy⟩)
/-! power -/
def powT (adj : Nat → Nat → Bool) (n k : Nat) : Nat → Nat → Bool := fun a b => decide (dN adj n a b = k ∧ dN adj n a b < 33)
theorem powT_t {adj : Nat → Nat → Bool} {n k a b : Nat} : powT adj n k a b = true ↔ dN adj n a b = k ∧ dN adj n a b < 33 := by
  unfold powT
  exact decide_eq_true_iff
theorem powT_f {adj : Nat → Nat → Bool} {n k a b : Nat} (h : ¬ (dN adj n a b = k ∧ dN adj n a b < 33)) : powT adj n k a b = false := by
  unfold powT
  exact decide_eq_false h
def powA (adj : Nat → Nat → Bool) (n k : Nat) : Nat → Nat → Bool := jnA n (powT adj n k)
theorem LN_power_s {n k : Nat} {lr ms pr sr f rd sz wh : Int32} {mn nn ly re st : Nat → Int32} {adj : Nat → Nat → Bool} (hw : WF n adj) (hb : Lb nn adj) (hc : LC adj n f rd sz wh ly re st) (hk : 1 ≤ k) (hk2 : k < 2 ^ 31) : Ok (LN_power (nI k) lr ms (nI n) pr sr f rd sz wh mn nn ly re st) (fun z => z.1 = nI (roadsN (powA adj n k) n) ∧ LFr (powA adj n k) n z.2.1 z.2.2.2.1 z.2.2.2.2.1 z.2.2.2.2.2.1 z.2.2.2.2.2.2.2.1 z.2.2.2.2.2.2.2.2.2.2.2.1) := by
  have hn := hw.1
  unfold LN_power
  refine ok_t ((nI_leI (a := 1) (by decide) hk2).mpr hk) (ok_b (LN_measure_c hw hb hc) (fun y hy => ok_b (Net_empty_f _ _ _) (fun z hz => ?_)))
  obtain ⟨z1, z2⟩ := z
  obtain ⟨rfl, hz⟩ : z1 = nI n ∧ Lb z2 (fun _ _ => false) := hz
  obtain ⟨y1, y2, y3, y4, y5, y6, y7⟩ := y
  have hst : ∀ p, p < n → ∀ q, q < 32 → y7 (32 * p + q) = if dN adj n p q < 33 then nI (dN adj n p q) else -1 := hy.2.2.2.1
  refine fr2 (fun F x m => LN_power_l27 F (nI k) x lr (nI n) (nI n) pr sr y1 y2 y3 y4 m nn y5 y6 y7) (fun p x m => x = nI p ∧ Lb m (jn n (powT adj n k) p 0)) n (fuel_big (by omega)) ?_ ?_ 0 (Nat.zero_le _) 0 z2 ⟨rfl, by rw [jn_0]; exact hz⟩
  · rintro p hp x m ⟨rfl, h1⟩ F ih
    rw [LN_power_l27_s]
    unfold LN_power_n27
    refine ok_f (nI_ge hp (by omega)) ?_
    refine fr2 (fun F x m => LN_power_l42 _ F (nI k) (nI p) x lr (nI n) (nI n) pr sr y1 y2 y3 y4 m nn y5 y6 y7) (fun q x m => x = nI q ∧ p < q ∧ Lb m (jn n (powT adj n k) p q)) n (fuel_big (by omega)) ?_ ?_ (p + 1) (by omega) _ m ⟨nI_1 p, by omega, by rw [jn_row]; exact h1⟩
    · rintro q hq x m ⟨rfl, hpq, h2⟩ F2 ih2
      rw [LN_power_l42_s]
      unfold LN_power_n42 LN_power_n75
      refine ok_f (nI_ge hq (by omega)) (ok_e (Wy_between_s (by omega) (by omega) _) ?_)
      rw [hst p hp q (by omega)]
      have key : (if dN adj n p q < 33 then nI (dN adj n p q) else -1) = nI k ↔ (dN adj n p q = k ∧ dN adj n p q < 33) := by
        by_cases g : dN adj n p q < 33
        · rw [if_pos g, nI_eq (by omega) hk2]; exact ⟨fun h => ⟨h, g⟩, fun h => h.1⟩
        · rw [if_neg g]
          refine ⟨fun h => ?_, fun h => absurd h.2 g⟩
          have h := congrArg Int32.toInt h
          rw [nI_toInt hk2] at h
          have : (-1 : Int32).toInt = -1 := by decide
          omega
      refine ok_i (fun c => ok_b (Net_join_s hn hp hq (by omega) h2) (fun m2 h3 => ih2 _ _ ⟨nI_1 q, by omega, ?_⟩)) (fun c => ih2 _ _ ⟨nI_1 q, by omega, ?_⟩)
      · rw [← jn_yes (t := powT adj n k) hpq hq (powT_t.mpr (key.mp c))]; exact h3
      · rw [jn_no (t := powT adj n k) (powT_f (fun h => c (key.mpr h)))]; exact h2
    · rintro x m ⟨rfl, hpq, h2⟩ F2
      rw [LN_power_l42_s]
      unfold LN_power_n42 LN_power_n81
      exact ok_t (nI_le (Nat.le_refl n) (by omega)) (ih _ _ ⟨nI_1 p, by rw [← jn_end]; exact h2⟩)
  · rintro x m ⟨rfl, h1⟩ F
    rw [LN_power_l27_s]
    unfold LN_power_n27 LN_power_n87
    rw [jn_all (fun a b h2 h3 _ => by omega)] at h1
    refine ok_t (nI_le (Nat.le_refl n) (by omega)) (ok_b (LN_adopt_s h1) (fun y hy => ?_))
    refine ok_e (by rw [hy.2.2.1]; exact Net_roads_s (WF_jnA hn) hy.2.2.2.2.2.2) (ok_s ⟨rfl, hy.2⟩)
theorem LN_power_n {x lr ms ns pr sr f rd sz wh : Int32} {mn nn ly re st : Nat → Int32} (h : ¬ 1 ≤ x) : LN_power x lr ms ns pr sr f rd sz wh mn nn ly re st = some (-1, lr, ms, ns, pr, sr, f, rd, sz, wh, mn, nn, ly, re, st) := by
  unfold LN_power
  rw [if_neg h]
theorem M_power_n {x ak f g im ps : Int32} {new road w : Nat → Int32} (h : ¬ 1 ≤ x) : M_power x ak f g im ps new road w = some (-1, ak, f, g, im, ps, new, road, w) := by
  unfold M_power
  rw [if_neg h]
theorem M_power_s {n k : Nat} {ak f g im : Int32} {new road w0 : Nat → Int32} {adj : Nat → Nat → Bool} (hw : WF n adj) (hb : Mb road adj) (hc : MC adj n f g im w0) (hk : 1 ≤ k) (hk2 : k < 2 ^ 31) : Ok (M_power (nI k) ak f g im (nI n) new road w0) (fun z => z.1 = nI (roadsN (powA adj n k) n) ∧ MFr (powA adj n k) n z.2.1 z.2.2.2.2.1 z.2.2.2.2.2.1 z.2.2.2.2.2.2.2.1) := by
  have hn := hw.1
  have hTe : pnA n (powT adj n k) = powA adj n k := by
    refine pnA_jnA hn (fun a b => bt_iff ?_) (fun a => powT_f ?_) (fun a b h1 h2 => rfl)
    · rw [powT_t, powT_t, dN_sym hw a b]
    · rw [dN_self]; omega
  unfold M_power
  refine ok_t ((nI_leI (a := 1) (by decide) hk2).mpr hk) (ok_b (M_measure_c hw hb hc) (fun y hy => ok_b (M_clearNew_f _) (fun z hz => ?_)))
  obtain ⟨y1, y2, y3, y4⟩ := y
  have hm : ∀ p, p < n → ∀ q, q < 32 → y4 (32 * p + q) = wy (dN adj n p q) := hy.2.1
  refine fr2 (fun F x m => M_power_l17 F (nI k) x ak y1 y2 y3 (nI n) m road y4) (fun p x m => x = nI p ∧ Mb m (pn n (powT adj n k) p 0)) n (fuel_big (by omega)) ?_ ?_ 0 (Nat.zero_le _) 0 z ⟨rfl, by rw [pn_0]; exact hz⟩
  · rintro p hp x m ⟨rfl, h1⟩ F ih
    rw [M_power_l17_s]
    unfold M_power_n17
    refine ok_f (nI_ge hp (by omega)) ?_
    refine fr2 (fun F x m => M_power_l27 _ F (nI k) (nI p) x ak y1 y2 y3 (nI n) m road y4) (fun q x m => x = nI q ∧ Mb m (pn n (powT adj n k) p q)) n (fuel_big (by omega)) ?_ ?_ 0 (Nat.zero_le _) 0 m ⟨rfl, h1⟩
    · rintro q hq x m ⟨rfl, h2⟩ F2 ih2
      rw [M_power_l27_s]
      unfold M_power_n27 M_power_n80 M_power_n81
      rw [i32, cl_nI (by omega), hm p hp q (by omega)]
      have h3 := Mb_pn hn hp hq h2
      refine ok_f (nI_ge hq (by omega)) (ok_g (inb_nI (by omega) (by omega)) (ok_i (fun c => ok_g (inb_nI (by omega) (by omega)) (ok_g isb_0 (ih2 _ _ ⟨nI_1 q, ?_⟩))) (fun c => ok_i (fun c2 => ok_g (inb_nI (by omega) (by omega)) (ok_g isb_1 (ih2 _ _ ⟨nI_1 q, ?_⟩))) (fun c2 => ok_g (inb_nI (by omega) (by omega)) (ok_g isb_0 (ih2 _ _ ⟨nI_1 q, ?_⟩))))))
      · have : powT adj n k p q = false := powT_f (fun h => wy_99.mp c h.2)
        rw [this] at h3; exact h3
      · have hd : dN adj n p q < 33 := Classical.byContradiction (fun g => c (wy_99.mpr g))
        have : powT adj n k p q = true := powT_t.mpr ⟨(wy_nI hk2 hd).mp c2, hd⟩
        rw [this] at h3; exact h3
      · have hd : dN adj n p q < 33 := Classical.byContradiction (fun g => c (wy_99.mpr g))
        have : powT adj n k p q = false := powT_f (fun h => c2 ((wy_nI hk2 hd).mpr h.1))
        rw [this] at h3; exact h3
    · rintro x m ⟨rfl, h2⟩ F2
      rw [M_power_l27_s]
      unfold M_power_n27 M_power_n88
      exact ok_t (nI_le (Nat.le_refl n) (by omega)) (ih _ _ ⟨nI_1 p, by rw [← pn_end]; exact h2⟩)
  · rintro x m ⟨rfl, h1⟩ F
    rw [M_power_l17_s]
    unfold M_power_n17 M_power_n94
    rw [pn_all, hTe] at h1
    refine ok_t (nI_le (Nat.le_refl n) (by omega)) (ok_b (M_become_f h1) (fun y hy => ?_))
    exact ok_e (by rw [hy.2.2.1]; exact M_roads_s hn hy.2.2.2) (ok_s ⟨rfl, hy⟩)
/-! twice -/
def twT (adj : Nat → Nat → Bool) (n : Nat) : Nat → Nat → Bool := fun a b => decide (n ≤ b) && adj a (b - n)
def twiA (adj : Nat → Nat → Bool) (n : Nat) : Nat → Nat → Bool := jnA (2 * n) (twT adj n)
theorem twT_at (adj : Nat → Nat → Bool) (n p q : Nat) : twT adj n p (n + q) = adj p q := by
  unfold twT
  rw [decide_eq_true (by omega), Nat.add_sub_cancel_left]; rfl
theorem twT_low {adj : Nat → Nat → Bool} {n p : Nat} : jn (2 * n) (twT adj n) p n = jn (2 * n) (twT adj n) p 0 := jn_ext (fun a b h1 h2 h3 => by
  unfold twT at h3
  rw [Bool.and_eq_true, decide_eq_true_iff] at h3
  omega)
theorem two_nI (n : Nat) : (2 : Int32) * nI n = nI (2 * n) := by rw [show (2 : Int32) = nI 2 from rfl, pk_mul]
theorem LN_twice_s {n : Nat} {lr ms pr sr wr : Int32} {mn nn : Nat → Int32} {adj : Nat → Nat → Bool} (hw : WF n adj) (hb : Lb nn adj) (h16 : 2 * n ≤ 32) : Ok (LN_twice lr ms (nI n) pr sr wr mn nn) (fun z => z.1 = nI (2 * n) ∧ LFr (twiA adj n) (2 * n) z.2.1 z.2.2.2.1 z.2.2.2.2.1 z.2.2.2.2.2.1 z.2.2.2.2.2.2.1 z.2.2.2.2.2.2.2.2) := by
  have hn := hw.1
  unfold LN_twice
  rw [two_nI]
  refine ok_t ((nI_leI (b := 32) (by omega) (by decide)).mpr h16) (ok_b (Net_empty_f _ _ _) (fun z hz => ?_))
  obtain ⟨z1, z2⟩ := z
  obtain ⟨rfl, hz⟩ : z1 = nI (2 * n) ∧ Lb z2 (fun _ _ => false) := hz
  refine fr2 (fun F x m => LN_twice_l31 F (nI n) x lr (nI (2 * n)) (nI n) pr sr wr m nn) (fun p x m => x = nI p ∧ Lb m (jn (2 * n) (twT adj n) p 0)) n (fuel_big (by omega)) ?_ ?_ 0 (Nat.zero_le _) 0 z2 ⟨rfl, by rw [jn_0]; exact hz⟩
  · rintro p hp x m ⟨rfl, h1⟩ F ih
    rw [LN_twice_l31_s]
    unfold LN_twice_n31
    refine ok_f (nI_ge hp (by omega)) ?_
    refine fr2 (fun F x m => LN_twice_l38 _ F (nI n) (nI p) x lr (nI (2 * n)) (nI n) pr sr wr m nn) (fun q x m => x = nI q ∧ Lb m (jn (2 * n) (twT adj n) p (n + q))) n (fuel_big (by omega)) ?_ ?_ 0 (Nat.zero_le _) 0 m ⟨rfl, by rw [Nat.add_zero, twT_low]; exact h1⟩
    · rintro q hq x m ⟨rfl, h2⟩ F2 ih2
      rw [LN_twice_l38_s]
      unfold LN_twice_n38 LN_twice_n66
      refine ok_f (nI_ge hq (by omega)) (ok_e (Net_areJoined_s hn hb) ?_)
      rw [inb_nI hp (by omega), inb_nI hq (by omega), cl_nI (by omega), cl_nI (by omega), nI_add]
      cases ha : adj p q
      · refine ok_t (by decide) (ih2 _ _ ⟨nI_1 q, ?_⟩)
        rw [← Nat.add_assoc, jn_no (by rw [twT_at, ha])]; exact h2
      · refine ok_f (by decide) (ok_b (Net_join_s h16 (by omega) (by omega) (by omega) h2) (fun m2 h3 => ih2 _ _ ⟨nI_1 q, ?_⟩))
        rw [← Nat.add_assoc, ← jn_yes (by omega) (by omega) (by rw [twT_at, ha])]; exact h3
    · rintro x m ⟨rfl, h2⟩ F2
      rw [LN_twice_l38_s]
      unfold LN_twice_n38 LN_twice_n72
      refine ok_t (nI_le (Nat.le_refl n) (by omega)) (ih _ _ ⟨nI_1 p, ?_⟩)
      rw [← jn_end, Nat.two_mul] at *
      exact h2
  · rintro x m ⟨rfl, h1⟩ F
    rw [LN_twice_l31_s]
    unfold LN_twice_n31 LN_twice_n78
    rw [jn_all (fun a b h2 h3 h4 => by
      unfold twT at h4
      rw [Bool.and_eq_true] at h4
      exact (hw.2.2.2 _ _ h4.2).1)] at h1
    exact ok_t (nI_le (Nat.le_refl n) (by omega)) (ok_b (LN_adopt_s h1) (fun y hy => ok_s hy))
theorem M_twice_s {n : Nat} {ak im : Int32} {new road : Nat → Int32} {adj : Nat → Nat → Bool} (hw : WF n adj) (hb : Mb road adj) (h16 : 2 * n ≤ 32) : Ok (M_twice ak im (nI n) new road) (fun z => z.1 = nI (2 * n) ∧ MFr (twiA adj n) (2 * n) z.2.1 z.2.2.1 z.2.2.2.1 z.2.2.2.2.2) := by
  have hn := hw.1
  unfold M_twice
  rw [two_nI]
  refine ok_t ((nI_leI (b := 32) (by omega) (by decide)).mpr h16) (ok_b (M_clearNew_f _) (fun z hz => ?_))
  refine fr2 (fun F x m => M_twice_l20 F x ak im (nI n) m road) (fun p x m => x = nI p ∧ Mb m (jn (2 * n) (twT adj n) p 0)) n (fuel_big (by omega)) ?_ ?_ 0 (Nat.zero_le _) 0 z ⟨rfl, by rw [jn_0]; exact hz⟩
  · rintro p hp x m ⟨rfl, h1⟩ F ih
    rw [M_twice_l20_s]
    unfold M_twice_n20
    refine ok_f (nI_ge hp (by omega)) ?_
    refine fr2 (fun F x m => M_twice_l30 _ F (nI p) x ak im (nI n) m road) (fun q x m => x = nI q ∧ Mb m (jn (2 * n) (twT adj n) p (n + q))) n (fuel_big (by omega)) ?_ ?_ 0 (Nat.zero_le _) 0 m ⟨rfl, by rw [Nat.add_zero, twT_low]; exact h1⟩
    · rintro q hq x m ⟨rfl, h2⟩ F2 ih2
      rw [M_twice_l30_s]
      unfold M_twice_n30 M_twice_n86
      rw [i32, i32, nI_add, nI_add, i32]
      refine ok_f (nI_ge hq (by omega)) (ok_g (inb_nI (by omega) (by omega)) ?_)
      rw [cl_nI (by omega), cl_nI (by omega), cl_nI (by omega), hb p (by omega) q (by omega)]
      cases ha : adj p q
      · refine ok_t (by decide) (ih2 _ _ ⟨nI_1 q, ?_⟩)
        rw [← Nat.add_assoc, jn_no (by rw [twT_at, ha])]; exact h2
      · refine ok_f (by decide) (ok_g (inb_nI (by omega) (by omega)) (ok_g (inb_nI (by omega) (by omega)) (ih2 _ _ ⟨nI_1 q, ?_⟩)))
        rw [← Nat.add_assoc n q 1, ← jn_yes (by omega) (by omega) (by rw [twT_at, ha]), Nat.add_assoc (32 * p) n q]
        exact Mb_set (by omega) (by omega) h2
    · rintro x m ⟨rfl, h2⟩ F2
      rw [M_twice_l30_s]
      unfold M_twice_n30 M_twice_n92
      refine ok_t (nI_le (Nat.le_refl n) (by omega)) (ih _ _ ⟨nI_1 p, ?_⟩)
      rw [← jn_end, Nat.two_mul] at *
      exact h2
  · rintro x m ⟨rfl, h1⟩ F
    rw [M_twice_l20_s]
    unfold M_twice_n20 M_twice_n98
    rw [jn_all (fun a b h2 h3 h4 => by
      unfold twT at h4
      rw [Bool.and_eq_true] at h4
      exact (hw.2.2.2 _ _ h4.2).1)] at h1
    rw [two_nI]
    exact ok_t (nI_le (Nat.le_refl n) (by omega)) (ok_b (M_become_f h1) (fun y hy => ok_s ⟨hy.2.2.1, hy⟩))
theorem LN_twice_n {n : Nat} {lr ms pr sr wr : Int32} {mn nn : Nat → Int32} (hn : n ≤ 32) (h : ¬ 2 * n ≤ 32) : LN_twice lr ms (nI n) pr sr wr mn nn = some (-2, lr, ms, nI n, pr, sr, wr, mn, nn) := by
  unfold LN_twice
  rw [two_nI, if_neg (show ¬ nI (2 * n) ≤ (32 : Int32) from fun g => h ((nI_leI (b := 32) (by omega) (by decide)).mp g))]
theorem M_twice_n {n : Nat} {ak im : Int32} {new road : Nat → Int32} (hn : n ≤ 32) (h : ¬ 2 * n ≤ 32) : M_twice ak im (nI n) new road = some (-2, ak, im, nI n, new, road) := by
  unfold M_twice
  rw [two_nI, if_neg (show ¬ nI (2 * n) ≤ (32 : Int32) from fun g => h ((nI_leI (b := 32) (by omega) (by decide)).mp g))]
