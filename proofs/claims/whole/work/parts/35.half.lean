/-! the posts of a sort, numbered in order -/
def kt (P : Nat → Bool) (n k : Nat) : Nat := fa_first (fun i => P i && decide (fb_ct P i = k)) n
theorem kt_is {P : Nat → Bool} {n k : Nat} (h : k < fb_ct P n) : kt P n k < n ∧ P (kt P n k) = true ∧ fb_ct P (kt P n k) = k := by
  obtain ⟨i, hi, h1, h2⟩ := fb_ct_kth h
  have hle := fa_first_le (fun i => P i && decide (fb_ct P i = k)) n
  have hlt : kt P n k < n := by
    rcases Nat.lt_or_ge (kt P n k) n with g | g
    · exact g
    · have := fa_first_no (fun i => P i && decide (fb_ct P i = k)) n i (by unfold kt at g; omega)
      rw [h1, decide_eq_true h2] at this
      cases this
  have := fa_first_yes (fun i => P i && decide (fb_ct P i = k)) n hlt
  rw [Bool.and_eq_true, decide_eq_true_iff] at this
  exact ⟨hlt, this⟩
theorem ct_lt {P : Nat → Bool} {n i : Nat} (hi : i < n) (h : P i = true) : fb_ct P i < fb_ct P n := by
  have := fb_ct_mono P (m := i + 1) (n := n) (by omega)
  rw [fb_ct_succ, h] at this
  have e : (if true = true then 1 else 0 : Nat) = 1 := rfl
  omega
theorem kt_of {P : Nat → Bool} {n i : Nat} (hi : i < n) (h : P i = true) : kt P n (fb_ct P i) = i := by
  obtain ⟨h1, h2, h3⟩ := kt_is (ct_lt hi h)
  exact fb_ct_kth_one h2 h h3
/-! roads written where numbers lead -/
noncomputable def imB (n : Nat) (N : Nat → Option Nat) (R : Nat → Nat → Prop) (p q : Nat) : Nat → Nat → Bool := fun a b => @decide (∃ p2 q2, bef p2 q2 p q ∧ p2 < n ∧ q2 < n ∧ N p2 = some a ∧ N q2 = some b ∧ R p2 q2) (Classical.propDecidable _)
theorem im_t {n p q a b : Nat} {N : Nat → Option Nat} {R : Nat → Nat → Prop} : imB n N R p q a b = true ↔ ∃ p2 q2, bef p2 q2 p q ∧ p2 < n ∧ q2 < n ∧ N p2 = some a ∧ N q2 = some b ∧ R p2 q2 := by
  unfold imB
  exact @decide_eq_true_iff _ (Classical.propDecidable _)
theorem im_0 {n : Nat} {N : Nat → Option Nat} {R : Nat → Nat → Prop} : imB n N R 0 0 = fun _ _ => false := by
  funext a b
  cases h : imB n N R 0 0 a b
  · rfl
  · obtain ⟨p2, q2, hb, _⟩ := im_t.mp h
    unfold bef at hb; omega
theorem im_end {n p : Nat} {N : Nat → Option Nat} {R : Nat → Nat → Prop} : imB n N R p n = imB n N R (p + 1) 0 := by
  funext a b
  refine bt_iff ?_
  rw [im_t, im_t]
  constructor
  · rintro ⟨p2, q2, hb, h1, h2, h3⟩; exact ⟨p2, q2, by unfold bef at *; omega, h1, h2, h3⟩
  · rintro ⟨p2, q2, hb, h1, h2, h3⟩; exact ⟨p2, q2, by unfold bef at *; omega, h1, h2, h3⟩
theorem im_no {n p q : Nat} {N : Nat → Option Nat} {R : Nat → Nat → Prop} (h : ¬ ∃ a b, N p = some a ∧ N q = some b ∧ R p q) : imB n N R p (q + 1) = imB n N R p q := by
  funext a b
  refine bt_iff ?_
  rw [im_t, im_t]
  constructor
  · rintro ⟨p2, q2, hb, h1, h2, h3, h4, h5⟩
    by_cases e : p2 = p ∧ q2 = q
    · obtain ⟨rfl, rfl⟩ := e; exact absurd ⟨a, b, h3, h4, h5⟩ h
    · exact ⟨p2, q2, by unfold bef at *; omega, h1, h2, h3, h4, h5⟩
  · rintro ⟨p2, q2, hb, h1, h2, h3⟩; exact ⟨p2, q2, by unfold bef at *; omega, h1, h2, h3⟩
theorem im_yes {n p q a0 b0 : Nat} {N : Nat → Option Nat} {R : Nat → Nat → Prop} {m : Nat → Int32} (hp : p < n) (hq : q < n) (ha : a0 < 32) (hb : b0 < 32) (h1 : N p = some a0) (h2 : N q = some b0) (h3 : R p q) (h : Mb m (imB n N R p q)) : Mb (upd m (32 * a0 + b0) 1) (imB n N R p (q + 1)) := by
  intro a ha2 b hb2
  by_cases e : a = a0 ∧ b = b0
  · obtain ⟨rfl, rfl⟩ := e
    rw [updS, im_t.mpr ⟨p, q, by unfold bef; omega, hp, hq, h1, h2, h3⟩]; rfl
  · rw [updN (by omega), h a ha2 b hb2, bI_inj]
    refine bt_iff ?_
    rw [im_t, im_t]
    constructor
    · rintro ⟨p2, q2, hb, g⟩; exact ⟨p2, q2, by unfold bef at *; omega, g⟩
    · rintro ⟨p2, q2, hb, g1, g2, g3, g4, g5⟩
      by_cases e2 : p2 = p ∧ q2 = q
      · obtain ⟨rfl, rfl⟩ := e2
        rw [h1] at g3
        rw [h2] at g4
        exact absurd ⟨(Option.some.inj g3).symm, (Option.some.inj g4).symm⟩ e
      · exact ⟨p2, q2, by unfold bef at *; omega, g1, g2, g3, g4, g5⟩
/-! half -/
def ev0 (adj : Nat → Nat → Bool) (n : Nat) : Nat → Bool := fun p => decide (dN adj n 0 p % 2 = 0)
theorem ev_t {adj : Nat → Nat → Bool} {n p : Nat} : ev0 adj n p = true ↔ dN adj n 0 p % 2 = 0 := by
  unfold ev0
  exact decide_eq_true_iff
def halN (adj : Nat → Nat → Bool) (n : Nat) : Nat := fb_ct (ev0 adj n) n
def halT (adj : Nat → Nat → Bool) (n : Nat) : Nat → Nat → Bool := fun a b => decide (dN adj n (kt (ev0 adj n) n a) (kt (ev0 adj n) n b) = 2)
theorem halT_t {adj : Nat → Nat → Bool} {n a b : Nat} : halT adj n a b = true ↔ dN adj n (kt (ev0 adj n) n a) (kt (ev0 adj n) n b) = 2 := by
  unfold halT
  exact decide_eq_true_iff
theorem halT_f {adj : Nat → Nat → Bool} {n a b : Nat} (h : ¬ dN adj n (kt (ev0 adj n) n a) (kt (ev0 adj n) n b) = 2) : halT adj n a b = false := by
  unfold halT
  exact decide_eq_false h
def halA (adj : Nat → Nat → Bool) (n : Nat) : Nat → Nat → Bool := jnA (halN adj n) (halT adj n)
theorem par_n {d : Nat} (h : d < 33) : nI d - nI d / 2 * 2 = nI (d % 2) := by
  rw [show (2 : Int32) = nI 2 from rfl]
  exact pk_rem (by omega) (by omega) (by omega)
theorem LN_half_s {n : Nat} {lr ms pr sr f rd sz wh : Int32} {li mn nn ly re st : Nat → Int32} {adj : Nat → Nat → Bool} (hw : WF n adj) (hb : Lb nn adj) (hc : LC adj n f rd sz wh ly re st) : Ok (LN_half lr ms (nI n) pr sr f rd sz wh li mn nn ly re st) (fun z => (wholeB adj n = true ∧ sidesB adj n = true → z.1 = nI (halN adj n) ∧ LFr (halA adj n) (halN adj n) z.2.1 z.2.2.2.1 z.2.2.2.2.1 z.2.2.2.2.2.1 z.2.2.2.2.2.2.2.1 z.2.2.2.2.2.2.2.2.2.2.2.2.1) ∧ (¬ (wholeB adj n = true ∧ sidesB adj n = true) → z.1 = -5 ∧ z.2.1 = lr ∧ z.2.2.2.1 = nI n ∧ z.2.2.2.2.1 = pr ∧ z.2.2.2.2.2.1 = sr ∧ z.2.2.2.2.2.2.2.2.2.2.2.2.1 = nn ∧ z.2.2.2.2.2.2.2.1 = 1 ∧ LW adj n z.2.2.2.2.2.2.1 z.2.2.2.2.2.2.2.2.1 z.2.2.2.2.2.2.2.2.2.1 z.2.2.2.2.2.2.2.2.2.2.2.2.2.1 z.2.2.2.2.2.2.2.2.2.2.2.2.2.2.1 z.2.2.2.2.2.2.2.2.2.2.2.2.2.2.2)) := by
  have hn := hw.1
  unfold LN_half LN_half_n28
  refine ok_b (LN_measure_c hw hb hc) (fun y hy => ?_)
  obtain ⟨y1, y2, y3, y4, y5, y6, y7⟩ := y
  obtain ⟨hy2, hy⟩ : y2 = 1 ∧ LW adj n y1 y3 y4 y5 y6 y7 := hy
  have hsz : y3 = nI n := hy.1
  have hwb : y4 = bI (wholeB adj n) := hy.2.2.2.2.1
  have hst : ∀ p, p < n → ∀ q, q < 32 → y7 (32 * p + q) = if dN adj n p q < 33 then nI (dN adj n p q) else -1 := hy.2.2.1
  by_cases hwh : wholeB adj n = true
  rotate_left
  · refine ok_t ?_ (ok_s ⟨fun h => absurd h.1 hwh, fun _ => ⟨rfl, rfl, rfl, rfl, rfl, rfl, hy2, hy⟩⟩)
    show y4 = 0
    rw [hwb, Bool.eq_false_iff.mpr hwh]; rfl
  refine ok_f ?_ ?_
  · show ¬ y4 = 0
    rw [hwb, hwh]; decide
  show Ok (bnd (Wy_isOfSides y3 y5 nn y7) _) _
  rw [hsz]
  refine ok_e (Wy_isOfSides_s hw hb hy) ?_
  by_cases hsd : sidesB adj n = true
  rotate_left
  · refine ok_t ?_ (ok_s ⟨fun h => absurd h.2 hsd, fun _ => ⟨rfl, rfl, rfl, rfl, rfl, rfl, hy2, ?_⟩⟩)
    · rw [Bool.eq_false_iff.mpr hsd]; rfl
    · rw [← hsz]; exact hy
  refine ok_m ?_ (fun z hz => ⟨fun _ => hz, fun h => absurd ⟨hwh, hsd⟩ h⟩)
  rw [hsd]
  refine ok_f (by decide) ?_
  obtain ⟨h0, hal⟩ := whole_all hw hwh
  have hmle : halN adj n ≤ n := fb_ct_le _ _
  show Ok (LN_half_l35 FUEL 0 0 lr ms (nI n) pr sr y1 y2 (nI n) y4 li mn nn y5 y6 y7) _
  refine fr3 (fun F c x l => LN_half_l35 F c x lr ms (nI n) pr sr y1 y2 (nI n) y4 l mn nn y5 y6 y7) (fun i c x l => c = nI (fb_ct (ev0 adj n) i) ∧ x = nI i ∧ ∀ k, k < fb_ct (ev0 adj n) i → l k = nI (kt (ev0 adj n) n k)) n (fuel_big (by omega)) ?_ ?_ 0 (Nat.zero_le _) 0 0 li ⟨rfl, rfl, all_none⟩
  · rintro i hi c x l ⟨rfl, rfl, h1⟩ F ih
    have hci := fb_ct_le (ev0 adj n) i
    rw [LN_half_l35_s]
    unfold LN_half_n35 LN_half_n70
    refine ok_f (nI_ge hi (by omega)) (ok_e (Wy_between_s (p := 0) (by omega) (by omega) _) ?_)
    have hd := hal 0 i h0 hi
    rw [hst 0 h0 i (by omega), if_pos hd, par_n hd]
    refine ok_i (fun g => ok_g (inb_nI (by omega) (by omega)) (ih _ _ _ ⟨?_, nI_1 i, ?_⟩)) (fun g => ih _ _ _ ⟨?_, nI_1 i, ?_⟩)
    · have he : ev0 adj n i = true := ev_t.mpr ((nI_eq (b := 0) (by omega) (by decide)).mp g)
      rw [nI_1, fb_ct_succ, he]; rfl
    · have he : ev0 adj n i = true := ev_t.mpr ((nI_eq (b := 0) (by omega) (by decide)).mp g)
      rw [fb_ct_succ, he, cl_nI (by omega)]
      refine all_next.mpr ⟨fun k hk => by rw [updN (by omega)]; exact h1 k hk, ?_⟩
      rw [updS, kt_of hi he]
    · have he : ev0 adj n i = false := Bool.eq_false_iff.mpr (fun h => g ((nI_eq (b := 0) (by omega) (by decide)).mpr (ev_t.mp h)))
      rw [fb_ct_succ, he]; rfl
    · have he : ev0 adj n i = false := Bool.eq_false_iff.mpr (fun h => g ((nI_eq (b := 0) (by omega) (by decide)).mpr (ev_t.mp h)))
      rw [fb_ct_succ, he]; exact h1
  · rintro c x l ⟨rfl, rfl, h1⟩ F
    rw [LN_half_l35_s]
    unfold LN_half_n35 LN_half_n76
    refine ok_t (nI_le (Nat.le_refl n) (by omega)) (ok_b (Net_empty_f _ _ _) (fun z hz => ?_))
    obtain ⟨z1, z2⟩ := z
    obtain ⟨rfl, hz⟩ : z1 = nI (halN adj n) ∧ Lb z2 (fun _ _ => false) := hz
    have h1 : ∀ k, k < halN adj n → l k = nI (kt (ev0 adj n) n k) := h1
    refine fr2 (fun F x m => LN_half_l86 F (nI (halN adj n)) x lr (nI (halN adj n)) (nI n) pr sr y1 y2 (nI n) y4 l m nn y5 y6 y7) (fun p x m => x = nI p ∧ Lb m (jn (halN adj n) (halT adj n) p 0)) (halN adj n) (fuel_big (by omega)) ?_ ?_ 0 (Nat.zero_le _) 0 z2 ⟨rfl, by rw [jn_0]; exact hz⟩
    · rintro p hp x m ⟨rfl, h2⟩ F ih
      rw [LN_half_l86_s]
      unfold LN_half_n86
      refine ok_f (nI_ge hp (by omega)) ?_
      refine fr2 (fun F x m => LN_half_l95 _ F (nI (halN adj n)) (nI p) x lr (nI (halN adj n)) (nI n) pr sr y1 y2 (nI n) y4 l m nn y5 y6 y7) (fun q x m => x = nI q ∧ p < q ∧ Lb m (jn (halN adj n) (halT adj n) p q)) (halN adj n) (fuel_big (by omega)) ?_ ?_ (p + 1) (by omega) _ m ⟨nI_1 p, by omega, by rw [jn_row]; exact h2⟩
      · rintro q hq x m ⟨rfl, hpq, h3⟩ F2 ih2
        rw [LN_half_l95_s]
        unfold LN_half_n95 LN_half_n132
        have k1 := (kt_is (P := ev0 adj n) (n := n) (k := p) hp).1
        have k2 := (kt_is (P := ev0 adj n) (n := n) (k := q) hq).1
        refine ok_f (nI_ge hq (by omega)) (ok_g (inb_nI (by omega) (by omega)) (ok_g (inb_nI (by omega) (by omega)) ?_))
        rw [cl_nI (by omega), cl_nI (by omega), h1 p hp, h1 q hq]
        refine ok_e (Wy_between_s (by omega) (by omega) _) ?_
        have hd := hal _ _ k1 k2
        rw [hst _ k1 _ (by omega), if_pos hd]
        refine ok_i (fun c => ok_b (Net_join_s (by omega) hp hq (by omega) h3) (fun m2 h4 => ih2 _ _ ⟨nI_1 q, by omega, ?_⟩)) (fun c => ih2 _ _ ⟨nI_1 q, by omega, ?_⟩)
        · rw [← jn_yes (t := halT adj n) hpq hq (halT_t.mpr ((nI_eq (b := 2) (by omega) (by decide)).mp c))]; exact h4
        · rw [jn_no (t := halT adj n) (halT_f (fun h => c ((nI_eq (b := 2) (by omega) (by decide)).mpr h)))]; exact h3
      · rintro x m ⟨rfl, hpq, h3⟩ F2
        rw [LN_half_l95_s]
        unfold LN_half_n95 LN_half_n138
        exact ok_t (nI_le (Nat.le_refl _) (by omega)) (ih _ _ ⟨nI_1 p, by rw [← jn_end]; exact h3⟩)
    · rintro x m ⟨rfl, h2⟩ F
      rw [LN_half_l86_s]
      unfold LN_half_n86 LN_half_n144
      rw [jn_all (fun a b h2 h3 _ => by omega)] at h2
      exact ok_t (nI_le (Nat.le_refl _) (by omega)) (ok_b (LN_adopt_s h2) (fun y hy => ok_s hy))
def halO (adj : Nat → Nat → Bool) (n p : Nat) : Option Nat := if ev0 adj n p = true then some (fb_ct (ev0 adj n) p) else none
theorem halA_im {adj : Nat → Nat → Bool} {n : Nat} (hw : WF n adj) : imB n (halO adj n) (fun p q => dN adj n p q = 2) n 0 = halA adj n := by
  have hn := hw.1
  have hmle : halN adj n ≤ n := fb_ct_le _ _
  have at1 : ∀ a b, imB n (halO adj n) (fun p q => dN adj n p q = 2) n 0 a b = true ↔ a < halN adj n ∧ b < halN adj n ∧ dN adj n (kt (ev0 adj n) n a) (kt (ev0 adj n) n b) = 2 := by
    intro a b
    have one : ∀ p c, p < n → halO adj n p = some c → c < halN adj n ∧ kt (ev0 adj n) n c = p := by
      intro p c hp h
      unfold halO at h
      by_cases e : ev0 adj n p = true
      · rw [if_pos e] at h
        obtain rfl := Option.some.inj h
        exact ⟨ct_lt hp e, kt_of hp e⟩
      · rw [if_neg e] at h; cases h
    have two : ∀ c, c < halN adj n → kt (ev0 adj n) n c < n ∧ halO adj n (kt (ev0 adj n) n c) = some c := by
      intro c hc
      obtain ⟨g1, g2, g3⟩ := kt_is hc
      refine ⟨g1, ?_⟩
      unfold halO
      rw [if_pos g2, g3]
    rw [im_t]
    constructor
    · rintro ⟨p2, q2, _, g1, g2, g3, g4, g5⟩
      obtain ⟨x1, x2⟩ := one p2 a g1 g3
      obtain ⟨x3, x4⟩ := one q2 b g2 g4
      rw [x2, x4]
      exact ⟨x1, x3, g5⟩
    · rintro ⟨g1, g2, g3⟩
      obtain ⟨x1, x2⟩ := two a g1
      obtain ⟨x3, x4⟩ := two b g2
      exact ⟨_, _, Or.inl x1, x1, x3, x2, x4, g3⟩
  refine net_ext ⟨by omega, fun a b => bt_iff ?_, fun a => ?_, fun a b h => ?_⟩ (WF_jnA (by omega)) (fun a b h1 h2 => bt_iff ?_)
  · rw [at1, at1, dN_sym hw]
    exact ⟨fun h => ⟨h.2.1, h.1, h.2.2⟩, fun h => ⟨h.2.1, h.1, h.2.2⟩⟩
  · cases e : imB n (halO adj n) (fun p q => dN adj n p q = 2) n 0 a a
    · rfl
    · have := ((at1 a a).mp e).2.2
      rw [dN_self] at this; cases this
  · exact ⟨((at1 a b).mp h).1, ((at1 a b).mp h).2.1⟩
  · unfold halA
    rw [jnA_lt h1 h2, at1, halT_t]
    exact ⟨fun h => h.2.2, fun h => ⟨by omega, h2, h⟩⟩
theorem M_half_s {n : Nat} {ak f g im : Int32} {new num road w0 : Nat → Int32} {adj : Nat → Nat → Bool} (hw : WF n adj) (hb : Mb road adj) (hc : MC adj n f g im w0) : Ok (M_half ak f g im (nI n) new num road w0) (fun z => (wholeB adj n = true ∧ sidesB adj n = true → z.1 = nI (halN adj n) ∧ MFr (halA adj n) (halN adj n) z.2.1 z.2.2.2.2.1 z.2.2.2.2.2.1 z.2.2.2.2.2.2.2.2.1) ∧ (¬ (wholeB adj n = true ∧ sidesB adj n = true) → z.1 = -5 ∧ z.2.1 = ak ∧ z.2.2.2.2.2.1 = nI n ∧ z.2.2.2.2.2.2.2.2.1 = road ∧ MC adj n z.2.2.1 z.2.2.2.1 z.2.2.2.2.1 z.2.2.2.2.2.2.2.2.2)) := by
  have hn := hw.1
  unfold M_half M_half_n14
  refine ok_b (M_isWhole_s hw hb hc) (fun z hz => ?_)
  have hC : MC adj n z.2.1 z.2.2.1 z.2.2.2.1 z.2.2.2.2 := Or.inr hz.2
  by_cases hwh : wholeB adj n = true
  rotate_left
  · refine ok_t ?_ (ok_s ⟨fun h => absurd h.1 hwh, fun _ => ⟨rfl, rfl, rfl, rfl, hC⟩⟩)
    rw [hz.1, Bool.eq_false_iff.mpr hwh]; rfl
  refine ok_f (by rw [hz.1, hwh]; decide) (ok_b (M_isOfSides_s hw hb hC) (fun y hy => ?_))
  by_cases hsd : sidesB adj n = true
  rotate_left
  · refine ok_t ?_ (ok_s ⟨fun h => absurd h.2 hsd, fun _ => ⟨rfl, rfl, rfl, rfl, Or.inr hy.2⟩⟩)
    rw [hy.1, Bool.eq_false_iff.mpr hsd]; rfl
  refine ok_m ?_ (fun z hz => ⟨fun _ => hz, fun h => absurd ⟨hwh, hsd⟩ h⟩)
  refine ok_f (by rw [hy.1, hsd]; decide) ?_
  obtain ⟨y0, y1, y2, y3, y4⟩ := y
  have hm : ∀ p, p < n → ∀ q, q < 32 → y4 (32 * p + q) = wy (dN adj n p q) := hy.2.2.1
  obtain ⟨h0, hal⟩ := whole_all hw hwh
  have hm0 : ∀ q, q < n → y4 q = nI (dN adj n 0 q) := fun q hq => by
    have := hm 0 h0 q (by omega)
    rw [Nat.mul_zero, Nat.zero_add] at this
    rw [this]
    exact if_pos (hal 0 q h0 hq)
  have hmle : halN adj n ≤ n := fb_ct_le _ _
  show Ok (M_half_l21 FUEL 0 0 ak y1 y2 y3 (nI n) new num road y4) _
  refine fr3 (fun F c x l => M_half_l21 F c x ak y1 y2 y3 (nI n) new l road y4) (fun i c x l => c = nI (fb_ct (ev0 adj n) i) ∧ x = nI i ∧ ∀ p, p < i → l p = if ev0 adj n p = true then nI (fb_ct (ev0 adj n) p) else -1) n (fuel_big (by omega)) ?_ ?_ 0 (Nat.zero_le _) 0 0 num ⟨rfl, rfl, all_none⟩
  · rintro i hi c x l ⟨rfl, rfl, h1⟩ F ih
    have hci := fb_ct_le (ev0 adj n) i
    rw [M_half_l21_s]
    unfold M_half_n21 M_half_n50 M_half_n68
    have hd := hal 0 i h0 hi
    rw [cl_nI (by omega), hm0 i hi, par_n hd]
    refine ok_f (nI_ge hi (by omega)) (ok_g (inb_nI (by omega) (by omega)) (ok_i (fun c => ok_g (inb_nI (by omega) (by omega)) (ok_g (inb_nI (by omega) (by omega)) (ok_t c (ih _ _ _ ⟨?_, nI_1 i, all_next.mpr ⟨fun p hp => by rw [updN (by omega)]; exact h1 p hp, ?_⟩⟩)))) (fun c => ok_g (inb_nI (by omega) (by omega)) (ok_g (inb_nI (by omega) (by omega)) (ok_f c (ih _ _ _ ⟨?_, nI_1 i, all_next.mpr ⟨fun p hp => by rw [updN (by omega)]; exact h1 p hp, ?_⟩⟩))))))
    · have he : ev0 adj n i = true := ev_t.mpr ((nI_eq (b := 0) (by omega) (by decide)).mp c)
      rw [nI_1, fb_ct_succ, he]; rfl
    · have he : ev0 adj n i = true := ev_t.mpr ((nI_eq (b := 0) (by omega) (by decide)).mp c)
      rw [updS, if_pos he]
    · have he : ev0 adj n i = false := Bool.eq_false_iff.mpr (fun h => c ((nI_eq (b := 0) (by omega) (by decide)).mpr (ev_t.mp h)))
      rw [fb_ct_succ, he, show (0 : Int32) = nI 0 from rfl, nI_add]; rfl
    · have he : ev0 adj n i = false := Bool.eq_false_iff.mpr (fun h => c ((nI_eq (b := 0) (by omega) (by decide)).mpr (ev_t.mp h)))
      rw [updS, he]; rfl
  · rintro c x l ⟨rfl, rfl, h1⟩ F
    rw [M_half_l21_s]
    unfold M_half_n21 M_half_n76
    refine ok_t (nI_le (Nat.le_refl n) (by omega)) (ok_b (M_clearNew_f _) (fun z hz => ?_))
    refine fr2 (fun F x m => M_half_l82 F (nI (halN adj n)) x ak y1 y2 y3 (nI n) m l road y4) (fun p x m => x = nI p ∧ Mb m (imB n (halO adj n) (fun p q => dN adj n p q = 2) p 0)) n (fuel_big (by omega)) ?_ ?_ 0 (Nat.zero_le _) 0 z ⟨rfl, by rw [im_0]; exact hz⟩
    · rintro p hp x m ⟨rfl, h2⟩ F ih
      rw [M_half_l82_s]
      unfold M_half_n82
      refine ok_f (nI_ge hp (by omega)) ?_
      refine fr2 (fun F x m => M_half_l92 _ F (nI (halN adj n)) (nI p) x ak y1 y2 y3 (nI n) m l road y4) (fun q x m => x = nI q ∧ Mb m (imB n (halO adj n) (fun p q => dN adj n p q = 2) p q)) n (fuel_big (by omega)) ?_ ?_ 0 (Nat.zero_le _) 0 m ⟨rfl, h2⟩
      · rintro q hq x m ⟨rfl, h3⟩ F2 ih2
        have c1 := fb_ct_le (ev0 adj n) p
        have c2 := fb_ct_le (ev0 adj n) q
        have hd := hal p q hp hq
        rw [M_half_l92_s]
        unfold M_half_n92 M_half_n155
        refine ok_f (nI_ge hq (by omega)) (ok_g (inb_nI (by omega) (by omega)) ?_)
        rw [cl_nI (by omega), cl_nI (by omega), h1 p hp, h1 q hq]
        have skip : (¬ ∃ a b, halO adj n p = some a ∧ halO adj n q = some b ∧ dN adj n p q = 2) → Mb m (imB n (halO adj n) (fun p q => dN adj n p q = 2) p (q + 1)) := fun h => by rw [im_no h]; exact h3
        by_cases e1 : ev0 adj n p = true
        rotate_left
        · rw [if_neg e1]
          refine ok_t (by decide) (ih2 _ _ ⟨nI_1 q, skip ?_⟩)
          rintro ⟨a, b, g1, _⟩
          unfold halO at g1
          rw [if_neg e1] at g1; cases g1
        rw [if_pos e1]
        refine ok_f (nI_pos (by omega)) (ok_g (inb_nI (by omega) (by omega)) ?_)
        by_cases e2 : ev0 adj n q = true
        rotate_left
        · rw [if_neg e2]
          refine ok_t (by decide) (ih2 _ _ ⟨nI_1 q, skip ?_⟩)
          rintro ⟨a, b, _, g1, _⟩
          unfold halO at g1
          rw [if_neg e2] at g1; cases g1
        rw [if_pos e2]
        refine ok_f (nI_pos (by omega)) ?_
        rw [i32, i32, cl_nI (by omega), cl_nI (by omega), hm p hp q (by omega), show wy (dN adj n p q) = nI (dN adj n p q) from if_pos hd]
        have o1 : halO adj n p = some (fb_ct (ev0 adj n) p) := by unfold halO; rw [if_pos e1]
        have o2 : halO adj n q = some (fb_ct (ev0 adj n) q) := by unfold halO; rw [if_pos e2]
        refine ok_g (inb_nI (by omega) (by omega)) (ok_i (fun c => ok_g (inb_nI (by omega) (by omega)) (ih2 _ _ ⟨nI_1 q, ?_⟩)) (fun c => ih2 _ _ ⟨nI_1 q, skip ?_⟩))
        · exact im_yes hp hq (by omega) (by omega) o1 o2 ((nI_eq (b := 2) (by omega) (by decide)).mp c) h3
        · rintro ⟨a, b, _, _, g1⟩
          exact c ((nI_eq (b := 2) (by omega) (by decide)).mpr g1)
      · rintro x m ⟨rfl, h3⟩ F2
        rw [M_half_l92_s]
        unfold M_half_n92 M_half_n161
        exact ok_t (nI_le (Nat.le_refl n) (by omega)) (ih _ _ ⟨nI_1 p, by rw [← im_end]; exact h3⟩)
    · rintro x m ⟨rfl, h2⟩ F
      rw [M_half_l82_s]
      unfold M_half_n82 M_half_n167
      rw [halA_im hw] at h2
      exact ok_t (nI_le (Nat.le_refl n) (by omega)) (ok_b (M_become_f h2) (fun y hy => ok_s ⟨rfl, hy⟩))
