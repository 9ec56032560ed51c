/-! like nets, their tables, the clash -/
def bsN (adj : Nat → Nat → Bool) (n p q w : Nat) : Nat := fb_ct (fun x => adj q x && decide (dN adj n p x = w)) n
def triC (adj : Nat → Nat → Bool) (n p q : Nat) : Nat := if dN adj n p q = 0 then 0 else bsN adj n p q (dN adj n p q - 1)
def triA (adj : Nat → Nat → Bool) (n p q : Nat) : Nat := bsN adj n p q (dN adj n p q)
def triB (adj : Nat → Nat → Bool) (n p q : Nat) : Nat := bsN adj n p q (dN adj n p q + 1)
def triE (adj : Nat → Nat → Bool) (n p q p2 q2 : Nat) : Prop := triC adj n p q = triC adj n p2 q2 ∧ triA adj n p q = triA adj n p2 q2 ∧ triB adj n p q = triB adj n p2 q2
theorem bsN_le (adj : Nat → Nat → Bool) (n p q w : Nat) : bsN adj n p q w ≤ n := fb_ct_le _ _
theorem triC_le (adj : Nat → Nat → Bool) (n p q : Nat) : triC adj n p q ≤ n := by
  unfold triC
  by_cases h : dN adj n p q = 0
  · rw [if_pos h]; omega
  · rw [if_neg h]; exact bsN_le _ _ _ _ _
def bef (p2 q2 p q : Nat) : Prop := p2 < p ∨ (p2 = p ∧ q2 < q)
def CLs (adj : Nat → Nat → Bool) (n p q : Nat) : Prop := ∃ p2 q2, bef p2 q2 p q ∧ p2 < n ∧ q2 < n ∧ dN adj n p2 q2 = dN adj n p q ∧ ¬ triE adj n p2 q2 p q
def FCl (adj : Nat → Nat → Bool) (n p q : Nat) : Prop := p < n ∧ q < n ∧ CLs adj n p q ∧ ∀ p2 q2, bef p2 q2 p q → p2 < n → q2 < n → ¬ CLs adj n p2 q2
theorem FCl_one {adj : Nat → Nat → Bool} {n p q p2 q2 : Nat} (h : FCl adj n p q) (h2 : FCl adj n p2 q2) : p = p2 ∧ q = q2 := by
  have t : bef p q p2 q2 ∨ bef p2 q2 p q ∨ (p = p2 ∧ q = q2) := by unfold bef; omega
  rcases t with t | t | t
  · exact absurd h.2.2.1 (h2.2.2.2 p q t h.1 h.2.1)
  · exact absurd h2.2.2.1 (h.2.2.2 p2 q2 t h2.1 h2.2.1)
  · exact t
noncomputable def likeB (adj : Nat → Nat → Bool) (n : Nat) : Bool := @decide (wholeB adj n = true ∧ ∀ p, p < n → ∀ q, q < n → ¬ CLs adj n p q) (Classical.propDecidable _)
theorem like_t {adj : Nat → Nat → Bool} {n : Nat} : likeB adj n = true ↔ wholeB adj n = true ∧ ∀ p, p < n → ∀ q, q < n → ¬ CLs adj n p q := by
  unfold likeB
  exact @decide_eq_true_iff _ (Classical.propDecidable _)
theorem like_f {adj : Nat → Nat → Bool} {n : Nat} (h : ¬ (wholeB adj n = true ∧ ∀ p, p < n → ∀ q, q < n → ¬ CLs adj n p q)) : likeB adj n = false := by
  cases e : likeB adj n
  · rfl
  · exact absurd (like_t.mp e) h
/-- what a table tells of the pairs before p, q -/
def TL (adj : Nat → Nat → Bool) (n p q : Nat) (c a b : Nat → Int32) : Prop := ∀ p2 q2, bef p2 q2 p q → p2 < n → q2 < n → c (dN adj n p2 q2) = nI (triC adj n p2 q2) ∧ a (dN adj n p2 q2) = nI (triA adj n p2 q2) ∧ b (dN adj n p2 q2) = nI (triB adj n p2 q2)
def UT (adj : Nat → Nat → Bool) (n p q : Nat) (t : Nat → Prop) : Prop := ∀ i, i < 32 → ((∃ p2 q2, bef p2 q2 p q ∧ p2 < n ∧ q2 < n ∧ dN adj n p2 q2 = i) ↔ t i)
theorem TL_no {adj : Nat → Nat → Bool} {n p q : Nat} {c a b : Nat → Int32} (hn : n ≤ 32) (h : TL adj n p q c a b) {p2 q2 : Nat} (hb : bef p2 q2 p q) (hp : p2 < n) (hq : q2 < n) : ¬ CLs adj n p2 q2 := by
  rintro ⟨p3, q3, hb3, hp3, hq3, e, ne⟩
  have b3 : bef p3 q3 p q := by unfold bef at *; omega
  obtain ⟨x1, x2, x3⟩ := h p2 q2 hb hp hq
  obtain ⟨y1, y2, y3⟩ := h p3 q3 b3 hp3 hq3
  rw [e] at y1 y2 y3
  rw [x1] at y1
  rw [x2] at y2
  rw [x3] at y3
  have a1 := triC_le adj n p2 q2
  have a2 := triC_le adj n p3 q3
  have a3 : triA adj n p2 q2 ≤ n := bsN_le _ _ _ _ _
  have a4 : triA adj n p3 q3 ≤ n := bsN_le _ _ _ _ _
  have a5 : triB adj n p2 q2 ≤ n := bsN_le _ _ _ _ _
  have a6 : triB adj n p3 q3 ≤ n := bsN_le _ _ _ _ _
  rw [nI_eq (by omega) (by omega)] at y1 y2 y3
  exact ne ⟨y1.symm, y2.symm, y3.symm⟩
theorem TL_line {adj : Nat → Nat → Bool} {n p : Nat} {c a b : Nat → Int32} (h : TL adj n p n c a b) : TL adj n (p + 1) 0 c a b := fun p2 q2 hb hp hq => h p2 q2 (by unfold bef at *; omega) hp hq
theorem UT_line {adj : Nat → Nat → Bool} {n p : Nat} {t : Nat → Prop} (h : UT adj n p n t) : UT adj n (p + 1) 0 t := fun i hi => by
  rw [← h i hi]
  constructor
  · rintro ⟨p2, q2, hb, hp, hq, e⟩; exact ⟨p2, q2, by unfold bef at *; omega, hp, hq, e⟩
  · rintro ⟨p2, q2, hb, hp, hq, e⟩; exact ⟨p2, q2, by unfold bef at *; omega, hp, hq, e⟩
/-- a pair that agrees with what is told, or is the first of its way -/
theorem TL_old {adj : Nat → Nat → Bool} {n p q : Nat} {c a b : Nat → Int32} (h : TL adj n p q c a b) (e1 : c (dN adj n p q) = nI (triC adj n p q)) (e2 : a (dN adj n p q) = nI (triA adj n p q)) (e3 : b (dN adj n p q) = nI (triB adj n p q)) : TL adj n p (q + 1) c a b := by
  intro p2 q2 hb hp hq
  by_cases g : p2 = p ∧ q2 = q
  · obtain ⟨rfl, rfl⟩ := g; exact ⟨e1, e2, e3⟩
  · exact h p2 q2 (by unfold bef at *; omega) hp hq
theorem TL_new {adj : Nat → Nat → Bool} {n p q : Nat} {c a b : Nat → Int32} (h : TL adj n p q c a b) (hno : ¬ ∃ p2 q2, bef p2 q2 p q ∧ p2 < n ∧ q2 < n ∧ dN adj n p2 q2 = dN adj n p q) : TL adj n p (q + 1) (upd c (dN adj n p q) (nI (triC adj n p q))) (upd a (dN adj n p q) (nI (triA adj n p q))) (upd b (dN adj n p q) (nI (triB adj n p q))) := by
  intro p2 q2 hb hp hq
  by_cases g : p2 = p ∧ q2 = q
  · obtain ⟨rfl, rfl⟩ := g; exact ⟨updS, updS, updS⟩
  · have b2 : bef p2 q2 p q := by unfold bef at *; omega
    have hne : dN adj n p2 q2 ≠ dN adj n p q := fun e => hno ⟨p2, q2, b2, hp, hq, e⟩
    rw [updN hne, updN hne, updN hne]
    exact h p2 q2 b2 hp hq
theorem UT_next {adj : Nat → Nat → Bool} {n p q : Nat} {t t2 : Nat → Prop} (hp : p < n) (hq : q < n) (h : UT adj n p q t) (h2 : ∀ i, i < 32 → (t2 i ↔ t i ∨ i = dN adj n p q)) : UT adj n p (q + 1) t2 := by
  intro i hi
  rw [h2 i hi, ← h i hi]
  constructor
  · rintro ⟨p2, q2, hb, h3, h4, e⟩
    by_cases g : p2 = p ∧ q2 = q
    · obtain ⟨rfl, rfl⟩ := g; exact Or.inr e.symm
    · exact Or.inl ⟨p2, q2, by unfold bef at *; omega, h3, h4, e⟩
  · rintro (⟨p2, q2, hb, h3, h4, e⟩ | e)
    · exact ⟨p2, q2, by unfold bef at *; omega, h3, h4, e⟩
    · exact ⟨p, q, by unfold bef; omega, hp, hq, e.symm⟩
theorem CL_of {adj : Nat → Nat → Bool} {n p q : Nat} {c a b : Nat → Int32} (hn : n ≤ 32) (h : TL adj n p q c a b) (ht : ∃ p2 q2, bef p2 q2 p q ∧ p2 < n ∧ q2 < n ∧ dN adj n p2 q2 = dN adj n p q) (hne : ¬ (c (dN adj n p q) = nI (triC adj n p q) ∧ a (dN adj n p q) = nI (triA adj n p q) ∧ b (dN adj n p q) = nI (triB adj n p q))) : CLs adj n p q := by
  obtain ⟨p2, q2, hb, hp, hq, e⟩ := ht
  refine ⟨p2, q2, hb, hp, hq, e, fun he => hne ?_⟩
  obtain ⟨y1, y2, y3⟩ := h p2 q2 hb hp hq
  rw [e] at y1 y2 y3
  rw [y1, y2, y3, he.1, he.2.1, he.2.2]
  exact ⟨rfl, rfl, rfl⟩
theorem bes_cnt {n p q w : Nat} {m : Int32} {near : Nat → Int32} {adj : Nat → Nat → Bool} (hw : WF n adj) (hb : Lb near adj) (hq : q < n) (hm : ∀ y, y < 32 → (bt m y = true ↔ dN adj n p y = w ∧ dN adj n p y < 33)) (hwd : w < 33) : cnt (near q &&& m) = bsN adj n p q w := by
  have hn := hw.1
  unfold cnt bsN
  rw [← ct_ext hn (p := fun x => adj q x && decide (dN adj n p x = w)) (fun k hk => by
    cases ha : adj q k
    · rfl
    · have := (hw.2.2.2 q k ha).2; omega)]
  refine fb_ct_cong (fun k hk => bt_iff ?_)
  rw [b_and, Bool.and_eq_true, hb q (by omega) k hk, hm k hk, Bool.and_eq_true, decide_eq_true_iff]
  constructor
  · rintro ⟨a, b, _⟩; exact ⟨a, b⟩
  · rintro ⟨a, b⟩; exact ⟨a, b, by omega⟩
theorem Wy_postsAt_m (p : Nat) (ly : Nat → Int32) : Wy_postsAt (nI p) (-1) ly = some 0 := by
  unfold Wy_postsAt Wy_postsAt_n10 Wy_postsAt_n25
  rw [if_pos (by decide)]
theorem Lk_fits_s {n p q : Nat} {near ly re st a b c : Nat → Int32} {f sz wh : Int32} {adj : Nat → Nat → Bool} (hw : WF n adj) (hb : Lb near adj) (hl : LW adj n f sz wh ly re st) (hwh : wholeB adj n = true) (hp : p < n) (hq : q < n) (hT : TL adj n p q c a b) (hU : UT adj n p q (fun i => 0 ≤ c i)) : Ok (Lk_fits (nI p) (nI q) a b c near ly st) (fun z => (z.1 = 1 ∧ TL adj n p (q + 1) z.2.2.2 z.2.1 z.2.2.1 ∧ UT adj n p (q + 1) (fun i => 0 ≤ z.2.2.2 i)) ∨ (z.1 = 0 ∧ CLs adj n p q)) := by
  have hn := hw.1
  have hd := (whole_all hw hwh).2 p q hp hq
  have hd2 := dN_bound hw hp hd
  have hle := triC_le adj n p q
  have hle2 : triA adj n p q ≤ n := bsN_le _ _ _ _ _
  have hle3 : triB adj n p q ≤ n := bsN_le _ _ _ _ _
  unfold Lk_fits Lk_fits_n159 Lk_fits_n160
  refine ok_e (Wy_between_s (by omega) (by omega) _) ?_
  rw [hl.2.2.1 p hp q (by omega), if_pos hd]
  refine ok_t (nI_pos' (by omega)) (ok_g (inb_nI (by omega) (by omega)) ?_)
  rw [cl_nI (by omega)]
  have hC : Ok (Wy_postsAt (nI p) (nI (dN adj n p q) - 1) ly) (fun m => cnt (near q &&& m) = triC adj n p q) := by
    unfold triC
    by_cases g : dN adj n p q = 0
    · rw [if_pos g, g, show nI 0 - 1 = (-1 : Int32) by decide]
      refine ok_of (Wy_postsAt_m p ly) ?_
      rw [show near q &&& (0 : Int32) = 0 from b_ext (fun i _ => by rw [b_and, b_0, Bool.and_false])]
      decide +kernel
    · rw [if_neg g, show nI (dN adj n p q) - 1 = nI (dN adj n p q - 1) from pk_sub (b := 1) (by omega)]
      exact ok_m (Wy_postsAt_s hw hp (by omega) (hl.2.1 p hp)) (fun m hm => bes_cnt hw hb hq hm (by omega))
  refine ok_b hC (fun m1 h1 => ok_e (JI_bitCount_s _) (ok_b (Wy_postsAt_s hw hp (by omega) (hl.2.1 p hp)) (fun m2 h2 => ok_e (JI_bitCount_s _) ?_)))
  rw [nI_1]
  refine ok_b (Wy_postsAt_s hw hp (by omega) (hl.2.1 p hp)) (fun m3 h3 => ok_e (JI_bitCount_s _) (ok_g (inb_nI (by omega) (by omega)) ?_))
  rw [cl_nI (by omega), h1, bes_cnt hw hb hq h2 (by omega), bes_cnt hw hb hq h3 (by omega)]
  have hUd := hU (dN adj n p q) (by omega)
  refine ok_i (fun g => ?_) (fun g => ok_s (Or.inl ⟨rfl, ?_, ?_⟩))
  · have ht := hUd.mpr g
    have bad : ¬ (c (dN adj n p q) = nI (triC adj n p q) ∧ a (dN adj n p q) = nI (triA adj n p q) ∧ b (dN adj n p q) = nI (triB adj n p q)) → Ok (gd (isb (0 : Int32)) <| some ((0 : Int32), a, b, c)) (fun z => (z.1 = 1 ∧ TL adj n p (q + 1) z.2.2.2 z.2.1 z.2.2.1 ∧ UT adj n p (q + 1) (fun i => 0 ≤ z.2.2.2 i)) ∨ (z.1 = 0 ∧ CLs adj n p q)) := fun hne => ok_g isb_0 (ok_s (Or.inr ⟨rfl, CL_of hn hT ht hne⟩))
    refine ok_i (fun g1 => ok_i (fun g2 => ok_i (fun g3 => ok_g isb_1 (ok_s (Or.inl ⟨rfl, TL_old hT g1 g2 g3, UT_next hp hq hU (fun i hi => ⟨Or.inl, fun h => h.elim id (fun e => by rw [e]; exact g)⟩)⟩))) (fun g3 => bad (fun h => g3 h.2.2))) (fun g2 => bad (fun h => g2 h.2.1))) (fun g1 => bad (fun h => g1 h.1))
  · exact TL_new hT (fun h => g (hUd.mp h))
  · refine UT_next hp hq hU (fun i hi => ?_)
    show 0 ≤ upd c (dN adj n p q) (nI (triC adj n p q)) i ↔ _
    by_cases e : i = dN adj n p q
    · rw [e, updS]
      exact ⟨fun _ => Or.inr rfl, fun _ => nI_pos' (by omega)⟩
    · rw [updN e]
      exact ⟨Or.inl, fun h => h.elim id (fun h => absurd h e)⟩
def LK (adj : Nat → Nat → Bool) (n : Nat) (cf ct holds : Int32) (a b c : Nat → Int32) : Prop := holds = bI (likeB adj n) ∧ (wholeB adj n = true → likeB adj n = false → ∃ p q, FCl adj n p q ∧ cf = nI p ∧ ct = nI q) ∧ (likeB adj n = true → ∀ p, p < n → ∀ q, q < n → c (dN adj n p q) = nI (triC adj n p q) ∧ a (dN adj n p q) = nI (triA adj n p q) ∧ b (dN adj n p q) = nI (triB adj n p q))
theorem LK_clash {adj : Nat → Nat → Bool} {n p q : Nat} {cf ct : Int32} {a b c : Nat → Int32} (h : FCl adj n p q) (e1 : cf = nI p) (e2 : ct = nI q) : LK adj n cf ct 0 a b c := by
  have hf : likeB adj n = false := like_f (fun g => g.2 p h.1 q h.2.1 h.2.2.1)
  exact ⟨by rw [hf]; rfl, fun _ _ => ⟨p, q, h, e1, e2⟩, fun g => by rw [hf] at g; cases g⟩
theorem LK_like {adj : Nat → Nat → Bool} {n : Nat} {cf ct : Int32} {a b c : Nat → Int32} (hn : n ≤ 32) (hwh : wholeB adj n = true) (h : TL adj n n 0 c a b) : LK adj n cf ct 1 a b c := by
  have hf : likeB adj n = true := like_t.mpr ⟨hwh, fun p hp q hq => TL_no hn h (Or.inl hp) hp hq⟩
  exact ⟨by rw [hf]; rfl, fun _ g => by rw [hf] at g; (cases g), fun _ p hp q hq => h p q (Or.inl hp) hp hq⟩
theorem TL_0 {adj : Nat → Nat → Bool} {n : Nat} {a b c : Nat → Int32} : TL adj n 0 0 c a b := fun p2 q2 hb _ _ => by unfold bef at hb; omega
theorem UT_0 {adj : Nat → Nat → Bool} {n : Nat} {t : Nat → Prop} (h : ∀ i, i < 32 → ¬ t i) : UT adj n 0 0 t := fun i hi => ⟨fun ⟨p2, q2, hb, _⟩ => by unfold bef at hb; omega, fun g => absurd g (h i hi)⟩
theorem Lk_look_s {n : Nat} {near ly re st a b c : Nat → Int32} {f sz wh cf ct ho rd : Int32} {adj : Nat → Nat → Bool} (hw : WF n adj) (hb : Lb near adj) (hl : LW adj n f sz wh ly re st) : Ok (Lk_look cf ct ho (nI n) wh rd a b c near ly st) (fun z => z.2.2.2.1 = 1 ∧ LK adj n z.1 z.2.1 z.2.2.1 z.2.2.2.2.1 z.2.2.2.2.2.1 z.2.2.2.2.2.2) := by
  have hn := hw.1
  have hwb : wh = bI (wholeB adj n) := hl.2.2.2.2.1
  unfold Lk_look
  rw [hwb]
  refine ok_g (isb_bI _) (ok_e (JA_fillI_s (by decide) _ _) ?_)
  cases hwh : wholeB adj n
  · obtain ⟨G, hG⟩ : ∃ G, FUEL = G + 1 := ⟨4294967295, rfl⟩
    rw [hG, Lk_look_l23_s]
    unfold Lk_look_n23 Lk_look_n97
    have fin : LK adj n cf ct (bI false) a b (fa_fill (fun _ => -1) c 32) := ⟨by rw [like_f (fun g => by rw [hwh] at g; exact absurd g.1 (by decide))], fun g => by rw [hwh] at g; (cases g), fun g => by rw [like_f (fun g => by rw [hwh] at g; exact absurd g.1 (by decide))] at g; cases g⟩
    exact ok_i (fun _ => ok_s ⟨rfl, fin⟩) (fun _ => ok_t rfl (ok_s ⟨rfl, fin⟩))
  · refine fr7 (fun F x1 x2 x3 x4 x5 x6 x7 => Lk_look_l23 (nI n) near ly st F x1 x2 x3 x4 1 x5 x6 x7) (fun p x1 cf ct ho a b c => x1 = nI p ∧ ((ho = 1 ∧ TL adj n p 0 c a b ∧ UT adj n p 0 (fun i => 0 ≤ c i)) ∨ (ho = 0 ∧ ∃ p q, FCl adj n p q ∧ cf = nI p ∧ ct = nI q))) n (fuel_big (by omega)) ?_ ?_ 0 (Nat.zero_le _) 0 cf ct (bI true) a b _ ⟨rfl, Or.inl ⟨rfl, TL_0, UT_0 (fun i hi => by rw [fa_fill_in hi]; decide)⟩⟩
    · rintro p hp x1 cf ct ho a b c ⟨rfl, h1⟩ F ih
      rw [Lk_look_l23_s]
      unfold Lk_look_n23 Lk_look_n97
      refine ok_f (nI_ge hp (by omega)) ?_
      rcases h1 with ⟨rfl, hT, hU⟩ | ⟨rfl, p2, q2, hF, e1, e2⟩
      rotate_left
      · exact ok_t rfl (ok_s ⟨rfl, LK_clash hF e1 e2⟩)
      refine ok_f (by decide) ?_
      refine fr7 (fun F x1 x2 x3 x4 x5 x6 x7 => Lk_look_l41 _ (nI n) near ly st F (nI p) x1 x2 x3 x4 1 x5 x6 x7) (fun q x1 cf ct ho a b c => x1 = nI q ∧ ((ho = 1 ∧ TL adj n p q c a b ∧ UT adj n p q (fun i => 0 ≤ c i)) ∨ (ho = 0 ∧ ∃ p q, FCl adj n p q ∧ cf = nI p ∧ ct = nI q))) n (fuel_big (by omega)) ?_ ?_ 0 (Nat.zero_le _) 0 cf ct 1 a b c ⟨rfl, Or.inl ⟨rfl, hT, hU⟩⟩
      · rintro q hq x1 cf ct ho a b c ⟨rfl, h2⟩ F2 ih2
        rw [Lk_look_l41_s]
        unfold Lk_look_n41 Lk_look_n91 Lk_look_n85
        refine ok_f (nI_ge hq (by omega)) ?_
        rcases h2 with ⟨rfl, hT, hU⟩ | ⟨rfl, h3⟩
        rotate_left
        · exact ok_t rfl (ih _ _ _ _ _ _ _ ⟨nI_1 p, Or.inr ⟨rfl, h3⟩⟩)
        refine ok_f (by decide) (ok_b (Lk_fits_s hw hb hl hwh hp hq hT hU) (fun z hz => ?_))
        rcases hz with ⟨e, hT2, hU2⟩ | ⟨e, hC⟩
        · rw [e]
          exact ok_f (by decide) (ih2 _ _ _ _ _ _ _ ⟨nI_1 q, Or.inl ⟨rfl, hT2, hU2⟩⟩)
        · rw [e]
          exact ok_t rfl (ih2 _ _ _ _ _ _ _ ⟨nI_1 q, Or.inr ⟨rfl, p, q, ⟨hp, hq, hC, fun p2 q2 hb2 h3 h4 => TL_no hn hT hb2 h3 h4⟩, rfl, rfl⟩⟩)
      · rintro x1 cf ct ho a b c ⟨rfl, h2⟩ F2
        rw [Lk_look_l41_s]
        unfold Lk_look_n41 Lk_look_n91
        refine ok_t (nI_le (Nat.le_refl n) (by omega)) (ih _ _ _ _ _ _ _ ⟨nI_1 p, ?_⟩)
        rcases h2 with ⟨rfl, hT, hU⟩ | h2
        · exact Or.inl ⟨rfl, TL_line hT, UT_line hU⟩
        · exact Or.inr h2
    · rintro x1 cf ct ho a b c ⟨rfl, h1⟩ F
      rw [Lk_look_l23_s]
      unfold Lk_look_n23 Lk_look_n97
      refine ok_t (nI_le (Nat.le_refl n) (by omega)) (ok_s ⟨rfl, ?_⟩)
      rcases h1 with ⟨rfl, hT, hU⟩ | ⟨rfl, p2, q2, hF, e1, e2⟩
      · exact LK_like hn hwh hT
      · exact LK_clash hF e1 e2
def LNC (adj : Nat → Nat → Bool) (n : Nat) (cf ct holds lr far ready size whole : Int32) (a b c ly re st : Nat → Int32) : Prop := LC adj n far ready size whole ly re st ∧ (lr = 0 ∨ (lr = 1 ∧ ready = 1 ∧ LK adj n cf ct holds a b c))
def LNR (adj : Nat → Nat → Bool) (n : Nat) (cf ct holds lr far ready size whole : Int32) (a b c ly re st : Nat → Int32) : Prop := lr = 1 ∧ ready = 1 ∧ LK adj n cf ct holds a b c ∧ LW adj n far size whole ly re st
theorem LNR_C {adj : Nat → Nat → Bool} {n : Nat} {cf ct holds lr far ready size whole : Int32} {a b c ly re st : Nat → Int32} (h : LNR adj n cf ct holds lr far ready size whole a b c ly re st) : LNC adj n cf ct holds lr far ready size whole a b c ly re st := ⟨Or.inr ⟨h.2.1, h.2.2.2⟩, Or.inr ⟨h.1, h.2.1, h.2.2.1⟩⟩
theorem LN_isLike_s {n : Nat} {near a b c ly re st : Nat → Int32} {cf ct ho lr f rd sz wh : Int32} {adj : Nat → Nat → Bool} (hw : WF n adj) (hb : Lb near adj) (hc : LNC adj n cf ct ho lr f rd sz wh a b c ly re st) : Ok (LN_isLike cf ct ho lr (nI n) f rd sz wh a b c near ly re st) (fun z => z.1 = bI (likeB adj n) ∧ LNR adj n z.2.1 z.2.2.1 z.2.2.2.1 z.2.2.2.2.1 z.2.2.2.2.2.1 z.2.2.2.2.2.2.1 z.2.2.2.2.2.2.2.1 z.2.2.2.2.2.2.2.2.1 z.2.2.2.2.2.2.2.2.2.1 z.2.2.2.2.2.2.2.2.2.2.1 z.2.2.2.2.2.2.2.2.2.2.2.1 z.2.2.2.2.2.2.2.2.2.2.2.2.1 z.2.2.2.2.2.2.2.2.2.2.2.2.2.1 z.2.2.2.2.2.2.2.2.2.2.2.2.2.2) := by
  unfold LN_isLike LN_isLike_n29
  rcases hc.2 with h | ⟨h1, h2, h3⟩
  · refine ok_t h (ok_b (LN_measure_c hw hb hc.1) (fun z hz => ok_b (Lk_look_s hw hb hz.2) (fun z2 hz2 => ?_)))
    have e := hz2.2.1
    refine ok_g (by rw [e]; exact isb_bI _) (ok_s ⟨e, hz2.1, hz.1, hz2.2, hz.2⟩)
  · refine ok_f (by rw [h1]; decide) (ok_g (by rw [h3.1]; exact isb_bI _) (ok_s ⟨h3.1, h1, h2, h3, ?_⟩))
    rcases hc.1 with g | ⟨_, g⟩
    · rw [h2] at g; exact absurd g (by decide)
    · exact g
/-! the model's side -/
theorem M_beside_s {n p q : Nat} {v : Int32} {road w : Nat → Int32} {adj : Nat → Nat → Bool} (hn : n ≤ 32) (hb : Mb road adj) (hm : ∀ p, p < n → ∀ q, q < 32 → w (32 * p + q) = wy (dN adj n p q)) (hp : p < n) (hq : q < n) : M_beside (nI p) (nI q) v (nI n) road w = some (nI (fb_ct (fun x => adj q x && decide (wy (dN adj n p x) = v)) n)) := by
  unfold M_beside
  apply ok_eq
  refine fr2 (fun F a b => M_beside_l6 (nI n) road w F (nI p) (nI q) v a b) (fun i a b => a = nI (fb_ct (fun x => adj q x && decide (wy (dN adj n p x) = v)) i) ∧ b = nI i) n (fuel_big (by omega)) ?_ ?_ 0 (Nat.zero_le _) 0 0 ⟨rfl, rfl⟩
  · rintro i hi a b ⟨rfl, rfl⟩ F ih
    rw [M_beside_l6_s]
    unfold M_beside_n6 M_beside_n52 M_beside_n53
    rw [i32, i32]
    refine ok_f (nI_ge hi (by omega)) (ok_g (inb_nI (by omega) (by omega)) ?_)
    rw [cl_nI (by omega), cl_nI (by omega), hb q (by omega) i (by omega), hm p hp i (by omega)]
    cases ha : adj q i
    · refine ok_t (by decide) (ih _ _ ⟨?_, nI_1 i⟩)
      rw [fb_ct_succ, ha, show (0 : Int32) = nI 0 from rfl, nI_add]; rfl
    · refine ok_f (by decide) (ok_g (inb_nI (by omega) (by omega)) (ok_i (fun c => ih _ _ ⟨?_, nI_1 i⟩) (fun c => ih _ _ ⟨?_, nI_1 i⟩)))
      · rw [fb_ct_succ, ha, decide_eq_true c, nI_1]; rfl
      · rw [fb_ct_succ, ha, decide_eq_false c, show (0 : Int32) = nI 0 from rfl, nI_add]; rfl
  · rintro a b ⟨rfl, rfl⟩ F
    rw [M_beside_l6_s]
    unfold M_beside_n6 M_beside_n62
    exact ok_t (nI_le (Nat.le_refl n) (by omega)) (ok_s rfl)
theorem wy_is {d w : Nat} (hw : w < 33) : wy d = nI w ↔ d = w := by
  rw [wy_wv]
  have := wv_le d
  rw [nI_eq (by omega) (by omega)]
  unfold wv
  by_cases g : d < 33
  · rw [if_pos g]
  · rw [if_neg g]; omega
theorem M_beside_n {n p q v : Nat} {road w : Nat → Int32} {adj : Nat → Nat → Bool} (hn : n ≤ 32) (hb : Mb road adj) (hm : ∀ p, p < n → ∀ q, q < 32 → w (32 * p + q) = wy (dN adj n p q)) (hp : p < n) (hq : q < n) (hv : v < 33) : M_beside (nI p) (nI q) (nI v) (nI n) road w = some (nI (bsN adj n p q v)) := by
  rw [M_beside_s hn hb hm hp hq]
  unfold bsN
  refine congrArg (fun k => some (nI k)) (fb_ct_cong (fun k _ => ?_))
  rw [show decide (wy (dN adj n p k) = nI v) = decide (dN adj n p k = v) from decide_eq_decide.mpr (wy_is hv)]
theorem M_beside_c {n p q : Nat} {road w : Nat → Int32} {adj : Nat → Nat → Bool} (hn : n ≤ 32) (hb : Mb road adj) (hm : ∀ p, p < n → ∀ q, q < 32 → w (32 * p + q) = wy (dN adj n p q)) (hp : p < n) (hq : q < n) (hd : dN adj n p q < 33) : M_beside (nI p) (nI q) (nI (dN adj n p q) - 1) (nI n) road w = some (nI (triC adj n p q)) := by
  unfold triC
  by_cases g : dN adj n p q = 0
  · rw [if_pos g, g, show nI 0 - 1 = (-1 : Int32) by decide, M_beside_s hn hb hm hp hq]
    refine congrArg (fun k => some (nI k)) (fb_ct_zero.mpr (fun k _ => ?_))
    rw [show decide (wy (dN adj n p k) = (-1 : Int32)) = false from decide_eq_false (fun e => by
      rw [wy_wv] at e
      have h1 := wv_le (dN adj n p k)
      have h2 := congrArg Int32.toInt e
      rw [nI_toInt (by omega)] at h2
      have h3 : (-1 : Int32).toInt = -1 := by decide
      omega), Bool.and_false]
  · rw [if_neg g, show nI (dN adj n p q) - 1 = nI (dN adj n p q - 1) from pk_sub (b := 1) (by omega)]
    exact M_beside_n hn hb hm hp hq (by omega)
theorem M_isLike_s {n : Nat} {it road ta tb tc w0 : Nat → Int32} {cp cq f0 g0 im : Int32} {adj : Nat → Nat → Bool} (hw : WF n adj) (hb : Mb road adj) (hc : MC adj n f0 g0 im w0) : Ok (M_isLike cp cq f0 g0 im (nI n) it road ta tb tc w0) (fun z => LK adj n z.2.1 z.2.2.1 z.1 z.2.2.2.2.2.2.2.1 z.2.2.2.2.2.2.2.2.1 z.2.2.2.2.2.2.2.2.2.1 ∧ z.2.2.2.2.2.1 = 1 ∧ MW adj n z.2.2.2.1 z.2.2.2.2.1 z.2.2.2.2.2.2.2.2.2.2) := by
  have hn := hw.1
  unfold M_isLike
  refine ok_b (M_isWhole_s hw hb hc) (fun z hz => ?_)
  obtain ⟨r, f, g, i, w⟩ := z
  have hm : ∀ p, p < n → ∀ q, q < 32 → w (32 * p + q) = wy (dN adj n p q) := hz.2.2.1
  have hr : r = bI (wholeB adj n) := hz.1
  subst hr
  cases hwh : wholeB adj n
  · have hf : likeB adj n = false := like_f (fun g => by rw [hwh] at g; exact absurd g.1 (by decide))
    exact ok_t rfl (ok_s ⟨⟨by rw [hf]; rfl, fun g => by rw [hwh] at g; (cases g), fun g => by rw [hf] at g; cases g⟩, hz.2.1, hz.2.2⟩)
  refine ok_f bI_n0 ?_
  show Ok (M_isLike_l11 (nI n) road FUEL 0 cp cq f g i it ta tb tc w) _
  refine fr2 (fun F x t => M_isLike_l11 (nI n) road F x cp cq f g i t ta tb tc w) (fun k x t => x = nI k ∧ ∀ j, j < k → t j = 0) 33 (fuel_big (by omega)) ?_ ?_ 0 (Nat.zero_le _) 0 it ⟨rfl, all_none⟩
  · rintro k hk x t ⟨rfl, h1⟩ F ih
    rw [M_isLike_l11_s]
    unfold M_isLike_n11
    refine ok_f (nI_ge hk (by decide)) (ok_g (inb_nI hk (by decide)) (ih _ _ ⟨nI_1 k, fun j hj => ?_⟩))
    rw [cl_nI (by omega)]
    by_cases e : j = k
    · rw [e, updS]
    · rw [updN e]; exact h1 j (by omega)
  · rintro x t ⟨rfl, h1⟩ F
    rw [M_isLike_l11_s]
    unfold M_isLike_n11 M_isLike_n30
    refine ok_t (nI_le (Nat.le_refl 33) (by decide)) ?_
    refine fr5 (fun F x1 t ta tb tc => M_isLike_l32 (nI n) road F x1 cp cq f g i t ta tb tc w) (fun p x1 t ta tb tc => x1 = nI p ∧ TL adj n p 0 tc ta tb ∧ UT adj n p 0 (fun i => ¬ t i = 0)) n (fuel_big (by omega)) ?_ ?_ 0 (Nat.zero_le _) 0 t ta tb tc ⟨rfl, TL_0, UT_0 (fun i hi g => g (h1 i (by omega)))⟩
    · rintro p hp x1 t ta tb tc ⟨rfl, hT, hU⟩ F ih
      rw [M_isLike_l32_s]
      unfold M_isLike_n32
      refine ok_f (nI_ge hp (by omega)) ?_
      refine fr5 (fun F x1 t ta tb tc => M_isLike_l42 _ (nI n) road F (nI p) x1 cp cq f g i t ta tb tc w) (fun q x1 t ta tb tc => x1 = nI q ∧ TL adj n p q tc ta tb ∧ UT adj n p q (fun i => ¬ t i = 0)) n (fuel_big (by omega)) ?_ ?_ 0 (Nat.zero_le _) 0 t ta tb tc ⟨rfl, hT, hU⟩
      · rintro q hq x1 t ta tb tc ⟨rfl, hT, hU⟩ F2 ih2
        have hd := (whole_all hw hwh).2 p q hp hq
        have hd2 := dN_bound hw hp hd
        rw [M_isLike_l42_s]
        unfold M_isLike_n42 M_isLike_n169 M_isLike_n181
        rw [i32, cl_nI (by omega), hm p hp q (by omega), show wy (dN adj n p q) = nI (dN adj n p q) from if_pos hd]
        refine ok_f (nI_ge hq (by omega)) (ok_g (inb_nI (by omega) (by omega)) (ok_e (M_beside_c hn hb hm hp hq hd) (ok_e (M_beside_n hn hb hm hp hq hd) ?_)))
        rw [nI_1]
        refine ok_e (M_beside_n hn hb hm hp hq (by omega)) (ok_g (inb_nI (by omega) (by omega)) ?_)
        rw [cl_nI (by omega)]
        have hUd := hU (dN adj n p q) (by omega)
        refine ok_i (fun g => ih2 _ _ _ _ _ ⟨nI_1 q, ?_, ?_⟩) (fun g => ?_)
        · exact TL_new hT (fun h => hUd.mp h g)
        · refine UT_next hp hq hU (fun i hi => ?_)
          show ¬ upd t (dN adj n p q) 1 i = 0 ↔ _
          by_cases e : i = dN adj n p q
          · rw [e, updS]
            exact ⟨fun _ => Or.inr rfl, fun _ => by decide⟩
          · rw [updN e]
            exact ⟨Or.inl, fun h => h.elim id (fun h => absurd h e)⟩
        · have ht := hUd.mpr g
          have bad : ¬ (tc (dN adj n p q) = nI (triC adj n p q) ∧ ta (dN adj n p q) = nI (triA adj n p q) ∧ tb (dN adj n p q) = nI (triB adj n p q)) → LK adj n (nI p) (nI q) 0 ta tb tc := fun hne => LK_clash ⟨hp, hq, CL_of hn hT ht hne, fun p2 q2 hb2 h3 h4 => TL_no hn hT hb2 h3 h4⟩ rfl rfl
          refine ok_i (fun g1 => ok_i (fun g2 => ok_i (fun g3 => ih2 _ _ _ _ _ ⟨nI_1 q, TL_old hT g1.symm g2.symm g3.symm, UT_next hp hq hU (fun i hi => ⟨Or.inl, fun h => h.elim id (fun e => by rw [e]; exact g)⟩)⟩) (fun g3 => ok_s ⟨bad (fun h => g3 h.2.2.symm), hz.2.1, hz.2.2⟩)) (fun g2 => ok_s ⟨bad (fun h => g2 h.2.1.symm), hz.2.1, hz.2.2⟩)) (fun g1 => ok_s ⟨bad (fun h => g1 h.1.symm), hz.2.1, hz.2.2⟩)
      · rintro x1 t ta tb tc ⟨rfl, hT, hU⟩ F2
        rw [M_isLike_l42_s]
        unfold M_isLike_n42 M_isLike_n187
        exact ok_t (nI_le (Nat.le_refl n) (by omega)) (ih _ _ _ _ _ ⟨nI_1 p, TL_line hT, UT_line hU⟩)
    · rintro x1 t ta tb tc ⟨rfl, hT, hU⟩ F
      rw [M_isLike_l32_s]
      unfold M_isLike_n32 M_isLike_n193
      exact ok_t (nI_le (Nat.le_refl n) (by omega)) (ok_s ⟨LK_like hn hwh hT, hz.2.1, hz.2.2⟩)
