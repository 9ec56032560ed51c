/-! fold: the heaps of posts at the way far -/
theorem ff_cong {p q : Nat → Bool} {n : Nat} (h : ∀ k, k < n → p k = q k) : fa_first p n = fa_first q n := by
  have a := fa_first_le p n
  have b := fa_first_le q n
  rcases Nat.lt_or_ge (fa_first p n) (fa_first q n) with c | c
  · have h1 := fa_first_yes p n (by omega)
    have h2 := fa_first_no q n _ c
    rw [h _ (by omega), h2] at h1; cases h1
  · rcases Nat.lt_or_ge (fa_first q n) (fa_first p n) with d | d
    · have h1 := fa_first_yes q n (by omega)
      have h2 := fa_first_no p n _ d
      rw [← h _ (by omega), h2] at h1; cases h1
    · omega
def simB (adj : Nat → Nat → Bool) (n p : Nat) : Nat → Bool := fun y => decide (y = p ∨ dN adj n p y = farN adj n)
theorem sim_t {adj : Nat → Nat → Bool} {n p y : Nat} : simB adj n p y = true ↔ y = p ∨ dN adj n p y = farN adj n := by
  unfold simB
  exact decide_eq_true_iff
def loN (adj : Nat → Nat → Bool) (n p : Nat) : Nat := fa_first (simB adj n p) 32
def fsB (adj : Nat → Nat → Bool) (n : Nat) : Nat → Bool := fun p => decide (loN adj n p = p)
theorem fs_t {adj : Nat → Nat → Bool} {n p : Nat} : fsB adj n p = true ↔ loN adj n p = p := by
  unfold fsB
  exact decide_eq_true_iff
def gN (adj : Nat → Nat → Bool) (n p : Nat) : Nat := fb_ct (fsB adj n) (loN adj n p)
def folN (adj : Nat → Nat → Bool) (n : Nat) : Nat := fb_ct (fsB adj n) n
section FOLD
variable {adj : Nat → Nat → Bool} {n : Nat}
theorem fo_33 (hw : WF n adj) (h : foldedB adj n = true) : farN adj n < 33 := by
  have := (folded_t.mp h).1
  obtain ⟨h0, _⟩ := whole_all hw this
  have hn := hw.1
  rcases Nat.lt_or_ge (farN adj n) 33 with g | g
  · exact g
  · have e := fa_first_no (fun e => decide (∀ a, a < n → ∀ q, q < n → dN adj n a q < 33 → dN adj n a q ≤ e)) 33 32 (by unfold farN at g; omega)
    exact absurd (fun a _ q _ hd => by omega) (of_decide_eq_false e)
theorem sim_self {p : Nat} : simB adj n p p = true := sim_t.mpr (Or.inl rfl)
theorem sim_lt (hw : WF n adj) (h : foldedB adj n = true) {p y : Nat} (hp : p < n) (hs : simB adj n p y = true) : y < n := by
  have := fo_33 hw h
  rcases sim_t.mp hs with e | e
  · omega
  · exact dN_lt hw hp (by omega)
theorem sim_sym (hw : WF n adj) {p y : Nat} (hs : simB adj n p y = true) : simB adj n y p = true := by
  rcases sim_t.mp hs with e | e
  · rw [e]; exact sim_self
  · exact sim_t.mpr (Or.inr (by rw [dN_sym hw]; exact e))
theorem sim_tr (h : foldedB adj n = true) {p q x : Nat} (hp : p < n) (hq : q < n) (hx : x < n) (h1 : simB adj n p q = true) (h2 : simB adj n q x = true) : simB adj n p x = true := by
  rcases sim_t.mp h1 with e | e
  · rw [e] at h2; exact h2
  · rcases sim_t.mp h2 with g | g
    · rw [g]; exact h1
    · exact sim_t.mpr ((folded_t.mp h).2.2 p hp q hq x hx e g)
theorem lo_le (hn : n ≤ 32) {p : Nat} (hp : p < n) : loN adj n p ≤ p := by
  rcases Nat.lt_or_ge p (loN adj n p) with g | g
  · have := fa_first_no (simB adj n p) 32 p g
    rw [sim_self] at this; cases this
  · exact g
theorem lo_sim (hn : n ≤ 32) {p : Nat} (hp : p < n) : simB adj n p (loN adj n p) = true := fa_first_yes (simB adj n p) 32 (by have := lo_le (adj := adj) hn hp; unfold loN at this; omega)
theorem lo_eq (hw : WF n adj) (h : foldedB adj n = true) {p q : Nat} (hp : p < n) (hs : simB adj n p q = true) : loN adj n p = loN adj n q := by
  have hq := sim_lt hw h hp hs
  refine ff_cong (fun k hk => bt_iff ⟨fun g => ?_, fun g => ?_⟩)
  · exact sim_tr h hq hp (sim_lt hw h hp g) (sim_sym hw hs) g
  · exact sim_tr h hp hq (sim_lt hw h hq g) hs g
theorem fs_lo (hw : WF n adj) (h : foldedB adj n = true) {p : Nat} (hp : p < n) : fsB adj n (loN adj n p) = true := fs_t.mpr (lo_eq hw h hp (lo_sim hw.1 hp)).symm
theorem gN_lt (hw : WF n adj) (h : foldedB adj n = true) {p : Nat} (hp : p < n) : gN adj n p < folN adj n := ct_lt (by have := lo_le (adj := adj) hw.1 hp; omega) (fs_lo hw h hp)
theorem kt_gN (hw : WF n adj) (h : foldedB adj n = true) {p : Nat} (hp : p < n) : kt (fsB adj n) n (gN adj n p) = loN adj n p := kt_of (by have := lo_le (adj := adj) hw.1 hp; omega) (fs_lo hw h hp)
theorem gN_sim (hw : WF n adj) (h : foldedB adj n = true) {p q : Nat} (hp : p < n) (hs : simB adj n p q = true) : gN adj n p = gN adj n q := by
  unfold gN
  rw [lo_eq hw h hp hs]
/-- p is in heap k -/
theorem in_gN (hw : WF n adj) (h : foldedB adj n = true) {p k : Nat} (hk : k < folN adj n) : simB adj n (kt (fsB adj n) n k) p = true ↔ p < n ∧ gN adj n p = k := by
  obtain ⟨h1, h2, h3⟩ := kt_is hk
  constructor
  · intro g
    refine ⟨sim_lt hw h h1 g, ?_⟩
    rw [← gN_sim hw h h1 g]
    unfold gN
    rw [fs_t.mp h2, h3]
  · rintro ⟨hp, rfl⟩
    rw [kt_gN hw h hp]
    exact sim_sym hw (lo_sim hw.1 hp)
end FOLD
noncomputable def folT (adj : Nat → Nat → Bool) (n : Nat) : Nat → Nat → Bool := fun i j => @decide (∃ p q, p < n ∧ q < n ∧ gN adj n p = i ∧ gN adj n q = j ∧ adj p q = true) (Classical.propDecidable _)
theorem folT_t {adj : Nat → Nat → Bool} {n i j : Nat} : folT adj n i j = true ↔ ∃ p q, p < n ∧ q < n ∧ gN adj n p = i ∧ gN adj n q = j ∧ adj p q = true := by
  unfold folT
  exact @decide_eq_true_iff _ (Classical.propDecidable _)
theorem folT_f {adj : Nat → Nat → Bool} {n i j : Nat} (h : ¬ ∃ p q, p < n ∧ q < n ∧ gN adj n p = i ∧ gN adj n q = j ∧ adj p q = true) : folT adj n i j = false := by
  cases e : folT adj n i j
  · rfl
  · exact absurd (folT_t.mp e) h
noncomputable def folA (adj : Nat → Nat → Bool) (n : Nat) : Nat → Nat → Bool := jnA (folN adj n) (folT adj n)
theorem LN_fold_s {n : Nat} {lr ms pr sr f rd sz wh : Int32} {li mn nn ly re st : Nat → Int32} {adj : Nat → Nat → Bool} (hw : WF n adj) (hb : Lb nn adj) (hc : LC adj n f rd sz wh ly re st) : Ok (LN_fold lr ms (nI n) pr sr f rd sz wh li mn nn ly re st) (fun z => (foldedB adj n = true → z.1 = nI (folN adj n) ∧ LFr (folA adj n) (folN adj n) z.2.1 z.2.2.2.1 z.2.2.2.2.1 z.2.2.2.2.2.1 z.2.2.2.2.2.2.2.1 z.2.2.2.2.2.2.2.2.2.2.2.2.1) ∧ (¬ foldedB adj n = true → z.1 = -5 ∧ z.2.1 = lr ∧ z.2.2.2.1 = nI n ∧ z.2.2.2.2.1 = pr ∧ z.2.2.2.2.2.1 = sr ∧ z.2.2.2.2.2.2.2.2.2.2.2.2.1 = nn ∧ z.2.2.2.2.2.2.2.1 = 1 ∧ LW adj n z.2.2.2.2.2.2.1 z.2.2.2.2.2.2.2.2.1 z.2.2.2.2.2.2.2.2.2.1 z.2.2.2.2.2.2.2.2.2.2.2.2.2.1 z.2.2.2.2.2.2.2.2.2.2.2.2.2.2.1 z.2.2.2.2.2.2.2.2.2.2.2.2.2.2.2)) := by
  have hn := hw.1
  unfold LN_fold
  refine ok_b (LN_measure_c hw hb hc) (fun y hy => ?_)
  obtain ⟨y1, y2, y3, y4, y5, y6, y7⟩ := y
  obtain ⟨hy2, hy⟩ : y2 = 1 ∧ LW adj n y1 y3 y4 y5 y6 y7 := hy
  have hsz : y3 = nI n := hy.1
  subst hsz
  refine ok_e (Wy_isFolded_s hw hy) ?_
  by_cases hF : foldedB adj n = true
  rotate_left
  · refine ok_t ?_ (ok_s ⟨fun h => absurd h hF, fun _ => ⟨rfl, rfl, rfl, rfl, rfl, rfl, hy2, hy⟩⟩)
    rw [Bool.eq_false_iff.mpr hF]; rfl
  refine ok_m ?_ (fun z hz => ⟨fun _ => hz, fun h => absurd hF h⟩)
  rw [hF]
  refine ok_f (by decide) ?_
  have hwh := (folded_t.mp hF).1
  obtain ⟨h0, hal⟩ := whole_all hw hwh
  have h33 := fo_33 hw hF
  have hmle : folN adj n ≤ n := fb_ct_le _ _
  have hfar : y1 = nI (farN adj n) := by rw [LW_far hw hy, if_pos hwh]
  subst hfar
  show Ok (LN_fold_l21 FUEL 0 0 lr ms (nI n) pr sr (nI (farN adj n)) y2 (nI n) y4 li mn nn y5 y6 y7) _
  refine fr3 (fun F c x l => LN_fold_l21 F c x lr ms (nI n) pr sr (nI (farN adj n)) y2 (nI n) y4 l mn nn y5 y6 y7) (fun i c x l => c = nI (fb_ct (fsB adj n) i) ∧ x = nI i ∧ ∀ k, k < fb_ct (fsB adj n) i → ∀ y, y < 32 → bt (l k) y = simB adj n (kt (fsB adj n) n k) y) n (fuel_big (by omega)) ?_ ?_ 0 (Nat.zero_le _) 0 0 li ⟨rfl, rfl, all_none⟩
  · rintro i hi c x l ⟨rfl, rfl, h1⟩ F ih
    have hci := fb_ct_le (fsB adj n) i
    rw [LN_fold_l21_s]
    unfold LN_fold_n21 LN_fold_n59
    refine ok_f (nI_ge hi (by omega)) (ok_b (Wy_farGroup_s hw hi (hy.2.1 i hi) h33) (fun m hm => ok_e (LN_lowestBit_s _) ?_))
    have hbits : ∀ y, y < 32 → bt m y = simB adj n i y := fun y hy2 => bt_iff (by rw [hm y hy2, sim_t])
    have hlow : low m = loN adj n i := ff_cong hbits
    have hl := low_le m
    rw [hlow] at hl ⊢
    refine ok_i (fun g => ok_g (inb_nI (by omega) (by omega)) (ih _ _ _ ⟨?_, nI_1 i, ?_⟩)) (fun g => ih _ _ _ ⟨?_, nI_1 i, ?_⟩)
    · have he : fsB adj n i = true := fs_t.mpr ((nI_eq (by omega) (by omega)).mp g)
      rw [nI_1, fb_ct_succ, he]; rfl
    · have he : fsB adj n i = true := fs_t.mpr ((nI_eq (by omega) (by omega)).mp g)
      rw [fb_ct_succ, he, cl_nI (by omega)]
      refine all_next.mpr ⟨fun k hk => by rw [updN (by omega)]; exact h1 k hk, ?_⟩
      rw [updS, kt_of hi he]; exact hbits
    · have he : fsB adj n i = false := Bool.eq_false_iff.mpr (fun h => g ((nI_eq (by omega) (by omega)).mpr (fs_t.mp h)))
      rw [fb_ct_succ, he]; rfl
    · have he : fsB adj n i = false := Bool.eq_false_iff.mpr (fun h => g ((nI_eq (by omega) (by omega)).mpr (fs_t.mp h)))
      rw [fb_ct_succ, he]; exact h1
  · rintro c x l ⟨rfl, rfl, h1⟩ F
    rw [LN_fold_l21_s]
    unfold LN_fold_n21 LN_fold_n65
    refine ok_t (nI_le (Nat.le_refl n) (by omega)) (ok_b (Net_empty_f _ _ _) (fun z hz => ?_))
    obtain ⟨z1, z2⟩ := z
    obtain ⟨rfl, hz⟩ : z1 = nI (folN adj n) ∧ Lb z2 (fun _ _ => false) := hz
    have h1 : ∀ k, k < folN adj n → ∀ y, y < 32 → bt (l k) y = simB adj n (kt (fsB adj n) n k) y := h1
    refine fr2 (fun F x m => LN_fold_l75 F (nI (folN adj n)) x lr (nI (folN adj n)) (nI n) pr sr (nI (farN adj n)) y2 (nI n) y4 l m nn y5 y6 y7) (fun p x m => x = nI p ∧ Lb m (jn (folN adj n) (folT adj n) p 0)) (folN adj n) (fuel_big (by omega)) ?_ ?_ 0 (Nat.zero_le _) 0 z2 ⟨rfl, by rw [jn_0]; exact hz⟩
    · rintro p hp x m ⟨rfl, h2⟩ F ih
      rw [LN_fold_l75_s]
      unfold LN_fold_n75
      refine ok_f (nI_ge hp (by omega)) (ok_g (inb_nI (by omega) (by omega)) (ok_b (Net_around_s hw hb) (fun ar har => ?_)))
      rw [cl_nI (by omega)] at har
      refine fr2 (fun F x m => LN_fold_l99 _ F (nI (folN adj n)) (nI p) ar x lr (nI (folN adj n)) (nI n) pr sr (nI (farN adj n)) y2 (nI n) y4 l m nn y5 y6 y7) (fun q x m => x = nI q ∧ p < q ∧ Lb m (jn (folN adj n) (folT adj n) p q)) (folN adj n) (fuel_big (by omega)) ?_ ?_ (p + 1) (by omega) _ m ⟨nI_1 p, by omega, by rw [jn_row]; exact h2⟩
      · rintro q hq x m ⟨rfl, hpq, h3⟩ F2 ih2
        rw [LN_fold_l99_s]
        unfold LN_fold_n99 LN_fold_n127
        refine ok_f (nI_ge hq (by omega)) (ok_g (inb_nI (by omega) (by omega)) ?_)
        rw [cl_nI (by omega)]
        have key : ar &&& l q = 0 ↔ ¬ ∃ a b, a < n ∧ b < n ∧ gN adj n a = p ∧ gN adj n b = q ∧ adj a b = true := by
          rw [and0]
          constructor
          · rintro h ⟨a, b, ha, hb2, e1, e2, e3⟩
            refine h b (by omega) ⟨(har b (by omega)).mpr ⟨a, ha, ?_, e3⟩, ?_⟩
            · rw [h1 p hp a (by omega)]; exact (in_gN hw hF hp).mpr ⟨ha, e1⟩
            · rw [h1 q hq b (by omega)]; exact (in_gN hw hF hq).mpr ⟨hb2, e2⟩
          · rintro h b hb2 ⟨g1, g2⟩
            obtain ⟨a, ha, g3, g4⟩ := (har b hb2).mp g1
            rw [h1 p hp a (by omega)] at g3
            rw [h1 q hq b hb2] at g2
            exact h ⟨a, b, ha, ((in_gN hw hF hq).mp g2).1, ((in_gN hw hF hp).mp g3).2, ((in_gN hw hF hq).mp g2).2, g4⟩
        refine ok_i (fun c => ih2 _ _ ⟨nI_1 q, by omega, ?_⟩) (fun c => ok_b (Net_join_s (by omega) hp hq (by omega) h3) (fun m2 h4 => ih2 _ _ ⟨nI_1 q, by omega, ?_⟩))
        · rw [jn_no (t := folT adj n) (folT_f (key.mp c))]; exact h3
        · rw [← jn_yes (t := folT adj n) hpq hq (folT_t.mpr (Classical.byContradiction (fun h => c (key.mpr h))))]; exact h4
      · rintro x m ⟨rfl, hpq, h3⟩ F2
        rw [LN_fold_l99_s]
        unfold LN_fold_n99 LN_fold_n133
        exact ok_t (nI_le (Nat.le_refl _) (by omega)) (ih _ _ ⟨nI_1 p, by rw [← jn_end]; exact h3⟩)
    · rintro x m ⟨rfl, h2⟩ F
      rw [LN_fold_l75_s]
      unfold LN_fold_n75 LN_fold_n139
      rw [jn_all (fun a b h2 h3 _ => by omega)] at h2
      exact ok_t (nI_le (Nat.le_refl _) (by omega)) (ok_b (LN_adopt_s h2) (fun y hy => ok_s hy))
def folR (adj : Nat → Nat → Bool) (n p q : Nat) : Prop := adj p q = true ∧ gN adj n p ≠ gN adj n q
theorem folA_im {adj : Nat → Nat → Bool} {n : Nat} (hw : WF n adj) (h : foldedB adj n = true) : imB n (fun p => some (gN adj n p)) (folR adj n) n 0 = folA adj n := by
  have hn := hw.1
  have hmle : folN adj n ≤ n := fb_ct_le _ _
  have at1 : ∀ a b, imB n (fun p => some (gN adj n p)) (folR adj n) n 0 a b = true ↔ a ≠ b ∧ ∃ p q, p < n ∧ q < n ∧ gN adj n p = a ∧ gN adj n q = b ∧ adj p q = true := by
    intro a b
    rw [im_t]
    constructor
    · rintro ⟨p2, q2, _, g1, g2, g3, g4, g5, g6⟩
      have e1 := Option.some.inj g3
      have e2 := Option.some.inj g4
      exact ⟨by rw [← e1, ← e2]; exact g6, p2, q2, g1, g2, e1, e2, g5⟩
    · rintro ⟨hne, p, q, g1, g2, rfl, rfl, g5⟩
      exact ⟨p, q, Or.inl g1, g1, g2, rfl, rfl, g5, hne⟩
  refine net_ext ⟨by omega, fun a b => bt_iff ?_, fun a => ?_, fun a b h2 => ?_⟩ (WF_jnA (by omega)) (fun a b h1 h2 => bt_iff ?_)
  · rw [at1, at1]
    constructor
    · rintro ⟨g1, p, q, g2, g3, g4, g5, g6⟩; exact ⟨Ne.symm g1, q, p, g3, g2, g5, g4, by rw [hw.2.1]; exact g6⟩
    · rintro ⟨g1, p, q, g2, g3, g4, g5, g6⟩; exact ⟨Ne.symm g1, q, p, g3, g2, g5, g4, by rw [hw.2.1]; exact g6⟩
  · cases e : imB n (fun p => some (gN adj n p)) (folR adj n) n 0 a a
    · rfl
    · exact absurd rfl ((at1 a a).mp e).1
  · obtain ⟨_, p, q, g2, g3, g4, g5, _⟩ := (at1 a b).mp h2
    rw [← g4, ← g5]
    exact ⟨gN_lt hw h g2, gN_lt hw h g3⟩
  · unfold folA
    rw [jnA_lt h1 h2, at1, folT_t]
    exact ⟨fun h => h.2, fun h => ⟨by omega, h⟩⟩
theorem M_fold_s {n : Nat} {ak f g im : Int32} {new num road w0 : Nat → Int32} {adj : Nat → Nat → Bool} (hw : WF n adj) (hb : Mb road adj) (hc : MC adj n f g im w0) : Ok (M_fold ak f g im (nI n) new num road w0) (fun z => (foldedB adj n = true → z.1 = nI (folN adj n) ∧ MFr (folA adj n) (folN adj n) z.2.1 z.2.2.2.2.1 z.2.2.2.2.2.1 z.2.2.2.2.2.2.2.2.1) ∧ (¬ foldedB adj n = true → z.1 = -5 ∧ z.2.1 = ak ∧ z.2.2.2.2.2.1 = nI n ∧ z.2.2.2.2.2.2.2.2.1 = road ∧ MC adj n z.2.2.1 z.2.2.2.1 z.2.2.2.2.1 z.2.2.2.2.2.2.2.2.2)) := by
  have hn := hw.1
  unfold M_fold
  refine ok_b (M_isFolded_s hw hb hc) (fun y hy => ?_)
  by_cases hF : foldedB adj n = true
  rotate_left
  · refine ok_t ?_ (ok_s ⟨fun h => absurd h hF, fun _ => ⟨rfl, rfl, rfl, rfl, Or.inr hy.2⟩⟩)
    rw [hy.1, Bool.eq_false_iff.mpr hF]; rfl
  refine ok_m ?_ (fun z hz => ⟨fun _ => hz, fun h => absurd hF h⟩)
  refine ok_f (by rw [hy.1, hF]; decide) ?_
  have hwh := (folded_t.mp hF).1
  obtain ⟨h0, hal⟩ := whole_all hw hwh
  have h33 := fo_33 hw hF
  have hmle : folN adj n ≤ n := fb_ct_le _ _
  obtain ⟨y0, y1, y2, y3, y4⟩ := y
  have hm : ∀ p, p < n → ∀ q, q < 32 → y4 (32 * p + q) = wy (dN adj n p q) := hy.2.2.1
  have hfar : y1 = nI (farN adj n) := MW_far hw hwh hy.2.2
  subst hfar
  show Ok (M_fold_l14 FUEL 0 0 ak (nI (farN adj n)) y2 y3 (nI n) new num road y4) _
  refine fr3 (fun F c x l => M_fold_l14 F c x ak (nI (farN adj n)) y2 y3 (nI n) new l road y4) (fun i c x l => c = nI (fb_ct (fsB adj n) i) ∧ x = nI i ∧ ∀ p, p < i → l p = nI (gN adj n p)) n (fuel_big (by omega)) ?_ ?_ 0 (Nat.zero_le _) 0 0 num ⟨rfl, rfl, all_none⟩
  · rintro i hi c x l ⟨rfl, rfl, h1⟩ F ih
    have hci := fb_ct_le (fsB adj n) i
    have hgi := gN_lt hw hF hi
    rw [M_fold_l14_s]
    unfold M_fold_n14
    rw [cl_nI (by omega)]
    refine ok_f (nI_ge hi (by omega)) (ok_g (inb_nI (by omega) (by omega)) ?_)
    refine fr2 (fun F x l => M_fold_l31 _ F (nI (fb_ct (fsB adj n) i)) (nI i) x ak (nI (farN adj n)) y2 y3 (nI n) new l road y4) (fun q x l => x = nI q ∧ (∀ p, p < i → l p = nI (gN adj n p)) ∧ (((∃ q2, q2 < q ∧ dN adj n i q2 = farN adj n) ∧ l i = nI (gN adj n i)) ∨ ((¬ ∃ q2, q2 < q ∧ dN adj n i q2 = farN adj n) ∧ l i = -1))) i (fuel_big (by omega)) ?_ ?_ 0 (Nat.zero_le _) 0 _ ⟨rfl, fun p hp => by rw [updN (by omega)]; exact h1 p hp, Or.inr ⟨fun ⟨q2, h, _⟩ => absurd h (Nat.not_lt_zero _), updS⟩⟩
    · rintro q hq x l ⟨rfl, h2, h3⟩ F2 ih2
      rw [M_fold_l31_s]
      unfold M_fold_n31 M_fold_n65
      rw [cl_nI (by omega), cl_nI (by omega)]
      refine ok_f (nI_ge hq (by omega)) (ok_e (M_isFar_s hn hi (by omega) hm (hal i q hi (by omega)) (by omega)) (ok_i (fun c => ok_g (inb_nI (by omega) (by omega)) (ok_g (inb_nI (by omega) (by omega)) ?_)) (fun c => ok_g (inb_nI (by omega) (by omega)) (ok_g (inb_nI (by omega) (by omega)) ?_))))
      · rw [fa_upd_same rfl]
        have hne : ¬ dN adj n i q = farN adj n := of_decide_eq_false (bI_eq0.mp c)
        refine ih2 _ _ ⟨nI_1 q, h2, ?_⟩
        rcases h3 with ⟨⟨q2, a1, a2⟩, a3⟩ | ⟨a1, a2⟩
        · exact Or.inl ⟨⟨q2, by omega, a2⟩, a3⟩
        · refine Or.inr ⟨fun ⟨q2, b1, b2⟩ => ?_, a2⟩
          by_cases e : q2 = q
          · rw [e] at b2; exact hne b2
          · exact a1 ⟨q2, by omega, b2⟩
      · have he : dN adj n i q = farN adj n := by
          apply Classical.byContradiction; intro e; rw [decide_eq_false e] at c; exact c rfl
        refine ih2 _ _ ⟨nI_1 q, fun p hp => by rw [updN (by omega)]; exact h2 p hp, Or.inl ⟨⟨q, by omega, he⟩, ?_⟩⟩
        rw [updS, h2 q hq, gN_sim hw hF hi (sim_t.mpr (Or.inr he))]
    · rintro x l ⟨rfl, h2, h3⟩ F2
      rw [M_fold_l31_s]
      unfold M_fold_n31 M_fold_n72 M_fold_n91
      rw [cl_nI (by omega)]
      refine ok_t (nI_le (Nat.le_refl _) (by omega)) (ok_g (inb_nI (by omega) (by omega)) ?_)
      rcases h3 with ⟨⟨q2, a1, a2⟩, a3⟩ | ⟨a1, a2⟩
      · rw [a3]
        have hlo : loN adj n i < i := by
          rcases Nat.lt_or_ge (loN adj n i) i with c | c
          · exact c
          · have := fa_first_no (simB adj n i) 32 q2 (by unfold loN at c; omega)
            rw [sim_t.mpr (Or.inr a2)] at this; cases this
        have he : fsB adj n i = false := Bool.eq_false_iff.mpr (fun h => by have := fs_t.mp h; omega)
        refine ok_t (nI_pos' (by omega)) (ih _ _ _ ⟨by rw [fb_ct_succ, he]; rfl, nI_1 i, all_next.mpr ⟨h2, a3⟩⟩)
      · rw [a2]
        have hlo : loN adj n i = i := by
          have l1 := lo_le (adj := adj) hn hi
          rcases Nat.lt_or_ge (loN adj n i) i with c | c
          · rcases sim_t.mp (lo_sim (adj := adj) hn hi) with e | e
            · exact e
            · exact absurd ⟨_, c, e⟩ a1
          · omega
        have he : fsB adj n i = true := fs_t.mpr hlo
        refine ok_f (by decide) (ih _ _ _ ⟨by rw [nI_1, fb_ct_succ, he]; rfl, nI_1 i, all_next.mpr ⟨fun p hp => by rw [updN (by omega)]; exact h2 p hp, ?_⟩⟩)
        rw [updS]
        unfold gN
        rw [hlo]
  · rintro c x l ⟨rfl, rfl, h1⟩ F
    rw [M_fold_l14_s]
    unfold M_fold_n14 M_fold_n97
    refine ok_t (nI_le (Nat.le_refl n) (by omega)) (ok_b (M_clearNew_f _) (fun z hz => ?_))
    refine fr2 (fun F x m => M_fold_l103 F (nI (folN adj n)) x ak (nI (farN adj n)) y2 y3 (nI n) m l road y4) (fun p x m => x = nI p ∧ Mb m (imB n (fun p => some (gN adj n p)) (folR adj n) p 0)) n (fuel_big (by omega)) ?_ ?_ 0 (Nat.zero_le _) 0 z ⟨rfl, by rw [im_0]; exact hz⟩
    · rintro p hp x m ⟨rfl, h2⟩ F ih
      rw [M_fold_l103_s]
      unfold M_fold_n103
      refine ok_f (nI_ge hp (by omega)) ?_
      refine fr2 (fun F x m => M_fold_l113 _ F (nI (folN adj n)) (nI p) x ak (nI (farN adj n)) y2 y3 (nI n) m l road y4) (fun q x m => x = nI q ∧ Mb m (imB n (fun p => some (gN adj n p)) (folR adj n) p q)) n (fuel_big (by omega)) ?_ ?_ 0 (Nat.zero_le _) 0 m ⟨rfl, h2⟩
      · rintro q hq x m ⟨rfl, h3⟩ F2 ih2
        have c1 := gN_lt hw hF hp
        have c2 := gN_lt hw hF hq
        rw [M_fold_l113_s]
        unfold M_fold_n113 M_fold_n172
        rw [i32]
        refine ok_f (nI_ge hq (by omega)) (ok_g (inb_nI (by omega) (by omega)) ?_)
        rw [cl_nI (by omega), cl_nI (by omega), cl_nI (by omega), h1 p hp, h1 q hq, hb p (by omega) q (by omega), i32, cl_nI (by omega)]
        have skip : ¬ folR adj n p q → Mb m (imB n (fun p => some (gN adj n p)) (folR adj n) p (q + 1)) := fun h => by rw [im_no (fun ⟨a, b, _, _, h2⟩ => h h2)]; exact h3
        cases ha : adj p q
        · exact ok_t (by decide) (ih2 _ _ ⟨nI_1 q, skip (fun h => by have h := h.1; rw [ha] at h; cases h)⟩)
        · refine ok_f (by decide) (ok_g (inb_nI (by omega) (by omega)) (ok_g (inb_nI (by omega) (by omega)) (ok_i (fun c => ih2 _ _ ⟨nI_1 q, skip (fun h => h.2 ((nI_eq (by omega) (by omega)).mp c))⟩) (fun c => ok_g (inb_nI (by omega) (by omega)) (ih2 _ _ ⟨nI_1 q, ?_⟩)))))
          exact im_yes hp hq (by omega) (by omega) rfl rfl ⟨ha, fun e => c (congrArg nI e)⟩ h3
      · rintro x m ⟨rfl, h3⟩ F2
        rw [M_fold_l113_s]
        unfold M_fold_n113 M_fold_n178
        exact ok_t (nI_le (Nat.le_refl n) (by omega)) (ih _ _ ⟨nI_1 p, by rw [← im_end]; exact h3⟩)
    · rintro x m ⟨rfl, h2⟩ F
      rw [M_fold_l103_s]
      unfold M_fold_n103 M_fold_n184
      rw [folA_im hw hF] at h2
      exact ok_t (nI_le (Nat.le_refl n) (by omega)) (ok_b (M_become_f h2) (fun y hy => ok_s ⟨rfl, hy⟩))
