/-! roads numbered in order -/
def rdP (adj : Nat → Nat → Bool) : Nat → Bool := fun c => decide (c / 32 < c % 32) && adj (c / 32) (c % 32)
theorem rdP_at {adj : Nat → Nat → Bool} {p q : Nat} (hq : q < 32) : rdP adj (32 * p + q) = (decide (p < q) && adj p q) := by
  unfold rdP
  rw [show (32 * p + q) / 32 = p by omega, show (32 * p + q) % 32 = q by omega]
theorem ct_gap {P : Nat → Bool} {m k : Nat} (h : m ≤ k) (hp : ∀ j, m ≤ j → j < k → P j = false) : fb_ct P k = fb_ct P m := by
  obtain ⟨d, rfl⟩ : ∃ d, k = m + d := ⟨k - m, by omega⟩
  rw [fb_ct_split, fb_ct_zero.mpr (fun j hj => hp (m + j) (by omega) (by omega)), Nat.add_zero]
theorem rd_line {adj : Nat → Nat → Bool} {n p : Nat} (hw : WF n adj) : fb_ct (rdP adj) (32 * (p + 1) + (p + 1 + 1)) = fb_ct (rdP adj) (32 * p + n) ∨ 32 ≤ p + 1 := by
  have hn := hw.1
  by_cases c : 32 ≤ p + 1
  · exact Or.inr c
  · refine Or.inl (ct_gap (by omega) (fun j h1 h2 => ?_))
    have e : j = 32 * (j / 32) + j % 32 := by omega
    rw [e, rdP_at (by omega)]
    cases ha : adj (j / 32) (j % 32)
    · rw [Bool.and_false]
    · have := hw.2.2.2 _ _ ha
      rw [decide_eq_false (by omega)]; rfl
theorem sm_ind (b : Nat → Bool) : ∀ k, fb_sm (fun q => if b q then 1 else 0) k = fb_ct b k := by
  intro k
  induction k with
  | zero => rfl
  | succ k ih => rw [fb_sm_succ, fb_ct_succ, ih]
theorem ct_swap (U : Nat → Nat → Bool) (k : Nat) : ∀ m, fb_sm (fun p => fb_ct (fun q => U q p) k) m = fb_sm (fun q => fb_ct (U q) m) k := by
  intro m
  induction m with
  | zero =>
    rw [show fb_sm (fun p => fb_ct (fun q => U q p) k) 0 = 0 from rfl]
    rw [fb_sm_cong (f := fun q => fb_ct (U q) 0) (g := fun _ => 0) (fun q _ => rfl), fb_sm_const]
    omega
  | succ m ih =>
    rw [fb_sm_succ, ih, ← sm_ind (fun q => U q m) k, ← fb_sm_add]
    exact fb_sm_cong (fun q _ => (fb_ct_succ (U q) m).symm)
theorem ct_rows (P : Nat → Bool) : ∀ m, fb_ct P (32 * m) = fb_sm (fun p => fb_ct (fun q => P (32 * p + q)) 32) m := by
  intro m
  induction m with
  | zero => rfl
  | succ m ih => rw [show 32 * (m + 1) = 32 * m + 32 by omega, fb_ct_split, ih, fb_sm_succ]
theorem roads_ct {adj : Nat → Nat → Bool} {n : Nat} (hw : WF n adj) : roadsN adj n = fb_ct (rdP adj) 1024 := by
  have hn := hw.1
  obtain ⟨U, hU⟩ : ∃ U : Nat → Nat → Bool, ∀ p q, U p q = (decide (p < q) && adj p q) := ⟨fun p q => decide (p < q) && adj p q, fun _ _ => rfl⟩
  have h1 : fb_ct (rdP adj) 1024 = fb_sm (fun p => fb_ct (U p) 32) 32 := by
    rw [show (1024 : Nat) = 32 * 32 from rfl, ct_rows]
    exact fb_sm_cong (fun p _ => fb_ct_cong (fun q hq => by rw [rdP_at hq, hU]))
  have h2 : ∀ p, deg adj n p = fb_ct (U p) 32 + fb_ct (fun q => U q p) 32 := by
    intro p
    rw [← deg_32 hw, ← fb_ct_or (fun q _ h => by
      rw [hU, hU, Bool.and_eq_true, Bool.and_eq_true, decide_eq_true_iff, decide_eq_true_iff] at h
      omega)]
    refine fb_ct_cong (fun q _ => bt_iff ?_)
    rw [Bool.or_eq_true, hU, hU, Bool.and_eq_true, Bool.and_eq_true, decide_eq_true_iff, decide_eq_true_iff, hw.2.1 q p]
    constructor
    · intro h
      have hne : p ≠ q := fun e => by rw [e, hw.2.2.1] at h; cases h
      rcases Nat.lt_or_ge p q with g | g
      · exact Or.inl ⟨g, h⟩
      · exact Or.inr ⟨by omega, h⟩
    · rintro (h | h)
      · exact h.2
      · exact h.2
  have h3 : fb_sm (deg adj n) n = fb_sm (deg adj n) 32 := by
    obtain ⟨d, hd⟩ : ∃ d, 32 = n + d := ⟨32 - n, by omega⟩
    rw [hd, fb_sm_split]
    have : fb_sm (fun k => deg adj n (n + k)) d = 0 := by
      rw [fb_sm_cong (f := fun k => deg adj n (n + k)) (g := fun _ => 0) (fun k _ => show fb_ct (adj (n + k)) n = 0 from fb_ct_zero.mpr (fun j _ => by
        cases ha : adj (n + k) j
        · rfl
        · have := hw.2.2.2 _ _ ha; omega)), fb_sm_const]
      omega
    omega
  have h4 : fb_sm (deg adj n) 32 = 2 * fb_ct (rdP adj) 1024 := by
    rw [fb_sm_cong (fun p _ => h2 p), fb_sm_add, ct_swap U 32 32, h1]
    omega
  unfold roadsN
  rw [h3, h4]
  omega
/-! lines -/
def lnc (adj : Nat → Nat → Bool) (k : Nat) : Nat := kt (rdP adj) 1024 k
def linT (adj : Nat → Nat → Bool) : Nat → Nat → Bool := fun i j => decide (lnc adj i / 32 = lnc adj j / 32 ∨ lnc adj i / 32 = lnc adj j % 32 ∨ lnc adj i % 32 = lnc adj j / 32 ∨ lnc adj i % 32 = lnc adj j % 32)
theorem linT_t {adj : Nat → Nat → Bool} {i j : Nat} : linT adj i j = true ↔ (lnc adj i / 32 = lnc adj j / 32 ∨ lnc adj i / 32 = lnc adj j % 32 ∨ lnc adj i % 32 = lnc adj j / 32 ∨ lnc adj i % 32 = lnc adj j % 32) := by
  unfold linT
  exact decide_eq_true_iff
theorem linT_f {adj : Nat → Nat → Bool} {i j : Nat} (h : ¬ (lnc adj i / 32 = lnc adj j / 32 ∨ lnc adj i / 32 = lnc adj j % 32 ∨ lnc adj i % 32 = lnc adj j / 32 ∨ lnc adj i % 32 = lnc adj j % 32)) : linT adj i j = false := by
  unfold linT
  exact decide_eq_false h
def linA (adj : Nat → Nat → Bool) (n : Nat) : Nat → Nat → Bool := jnA (roadsN adj n) (linT adj)
theorem lnc_lt {adj : Nat → Nat → Bool} {n k : Nat} (hw : WF n adj) (hk : k < roadsN adj n) : lnc adj k < 1024 := by
  rw [roads_ct hw] at hk
  exact (kt_is hk).1
def rdL (adj : Nat → Nat → Bool) (c : Nat) (l m : Nat → Int32) : Prop := ∀ k, k < fb_ct (rdP adj) c → l k = nI (lnc adj k / 32) ∧ m k = nI (lnc adj k % 32)
theorem rdL_yes {adj : Nat → Nat → Bool} {p q : Nat} {l m : Nat → Int32} (hp : p < 32) (hq : q < 32) (h : rdL adj (32 * p + q) l m) (ht : rdP adj (32 * p + q) = true) : rdL adj (32 * p + q + 1) (upd l (fb_ct (rdP adj) (32 * p + q)) (nI p)) (upd m (fb_ct (rdP adj) (32 * p + q)) (nI q)) := by
  unfold rdL
  rw [fb_ct_succ, ht]
  refine all_next.mpr ⟨fun k hk => by rw [updN (by omega), updN (by omega)]; exact h k hk, ?_⟩
  rw [updS, updS]
  unfold lnc
  rw [kt_of (by omega) ht, show (32 * p + q) / 32 = p by omega, show (32 * p + q) % 32 = q by omega]
  exact ⟨rfl, rfl⟩
theorem rdL_no {adj : Nat → Nat → Bool} {c : Nat} {l m : Nat → Int32} (h : rdL adj c l m) (ht : rdP adj c = false) : rdL adj (c + 1) l m := by
  unfold rdL
  rw [fb_ct_succ, ht]; exact h
theorem rdL_of {adj : Nat → Nat → Bool} {c d : Nat} {l m : Nat → Int32} (h : rdL adj c l m) (e : fb_ct (rdP adj) d = fb_ct (rdP adj) c) : rdL adj d l m := by
  unfold rdL
  rw [e]; exact h
theorem rd_next {adj : Nat → Nat → Bool} {n p : Nat} (hw : WF n adj) (hp : p < n) : (p + 1 < n → fb_ct (rdP adj) (32 * (p + 1) + (p + 1 + 1)) = fb_ct (rdP adj) (32 * p + n)) ∧ (¬ p + 1 < n → fb_ct (rdP adj) 1024 = fb_ct (rdP adj) (32 * p + n)) := by
  have hn := hw.1
  refine ⟨fun h => ?_, fun h => ct_gap (by omega) (fun j h1 h2 => ?_)⟩
  · rcases rd_line (p := p) hw with g | g
    · exact g
    · omega
  · have e : j = 32 * (j / 32) + j % 32 := by omega
    rw [e, rdP_at (by omega)]
    cases ha : adj (j / 32) (j % 32)
    · rw [Bool.and_false]
    · have := hw.2.2.2 _ _ ha
      rw [decide_eq_false (by omega)]; rfl
/-- the row at which the walk over pairs stands: p (p + 1), or the end -/
def rdR (n p : Nat) : Nat := if p < n then 32 * p + (p + 1) else 1024
theorem rdR_next {adj : Nat → Nat → Bool} {n p : Nat} (hw : WF n adj) (hp : p < n) : fb_ct (rdP adj) (rdR n (p + 1)) = fb_ct (rdP adj) (32 * p + n) := by
  unfold rdR
  by_cases c : p + 1 < n
  · rw [if_pos c]; exact (rd_next hw hp).1 c
  · rw [if_neg c]; exact (rd_next hw hp).2 c
theorem rdR_0 {adj : Nat → Nat → Bool} {n : Nat} (hw : WF n adj) : fb_ct (rdP adj) (rdR n 0) = 0 := by
  unfold rdR
  refine fb_ct_zero.mpr (fun j h2 => ?_)
  have e : j = 32 * (j / 32) + j % 32 := by omega
  rw [e, rdP_at (by omega)]
  cases ha : adj (j / 32) (j % 32)
  · rw [Bool.and_false]
  · have := hw.2.2.2 _ _ ha
    rw [if_pos (by omega)] at h2
    rw [decide_eq_false (by omega)]; rfl
theorem LN_listRoads_s {n : Nat} {nn li pa : Nat → Int32} {adj : Nat → Nat → Bool} (hw : WF n adj) (hb : Lb nn adj) (h32 : roadsN adj n ≤ 32) : Ok (LN_listRoads (nI n) li nn pa) (fun z => rdL adj 1024 z.1 z.2) := by
  have hn := hw.1
  rw [roads_ct hw] at h32
  unfold LN_listRoads
  refine fr4 (fun F c x l m => LN_listRoads_l4 (nI n) nn F c x l m) (fun p c x l m => c = nI (fb_ct (rdP adj) (rdR n p)) ∧ x = nI p ∧ rdL adj (rdR n p) l m) n (fuel_big (by omega)) ?_ ?_ 0 (Nat.zero_le _) 0 0 li pa ⟨by rw [rdR_0 hw]; rfl, rfl, fun k hk => by rw [rdR_0 hw] at hk; omega⟩
  · rintro p hp c x l m ⟨rfl, rfl, h1⟩ F ih
    have hR : rdR n p = 32 * p + (p + 1) := if_pos hp
    rw [hR] at h1 ⊢
    rw [LN_listRoads_l4_s]
    unfold LN_listRoads_n4
    refine ok_f (nI_ge hp (by omega)) ?_
    refine fr4 (fun F c x l m => LN_listRoads_l19 _ (nI n) nn F c (nI p) x l m) (fun q c x l m => c = nI (fb_ct (rdP adj) (32 * p + q)) ∧ x = nI q ∧ p < q ∧ rdL adj (32 * p + q) l m) n (fuel_big (by omega)) ?_ ?_ (p + 1) (by omega) _ _ l m ⟨rfl, nI_1 p, by omega, h1⟩
    · rintro q hq c x l m ⟨rfl, rfl, hpq, h2⟩ F2 ih2
      rw [LN_listRoads_l19_s]
      unfold LN_listRoads_n19 LN_listRoads_n65
      refine ok_f (nI_ge hq (by omega)) (ok_e (Net_areJoined_s hn hb) ?_)
      rw [inb_nI hp (by omega), inb_nI hq (by omega), cl_nI (by omega), cl_nI (by omega)]
      have hP : rdP adj (32 * p + q) = adj p q := by rw [rdP_at (by omega), decide_eq_true hpq]; rfl
      cases ha : adj p q
      · rw [ha] at hP
        exact ok_t (by decide) (ih2 _ _ _ _ ⟨by rw [← Nat.add_assoc, fb_ct_succ, hP]; rfl, nI_1 q, by omega, by rw [← Nat.add_assoc]; exact rdL_no h2 hP⟩)
      · rw [ha] at hP
        have hlt := ct_lt (n := 1024) (by omega) hP
        refine ok_f (by decide) (ok_f (nI_ge (b := 32) (by omega) (by decide)) (ok_g (inb_nI (by omega) (by omega)) ?_))
        rw [cl_nI (by omega)]
        exact ih2 _ _ _ _ ⟨by rw [← Nat.add_assoc, fb_ct_succ, hP, nI_1]; rfl, nI_1 q, by omega, by rw [← Nat.add_assoc]; exact rdL_yes (by omega) (by omega) h2 hP⟩
    · rintro c x l m ⟨rfl, rfl, hpq, h2⟩ F2
      rw [LN_listRoads_l19_s]
      unfold LN_listRoads_n19 LN_listRoads_n71
      exact ok_t (nI_le (Nat.le_refl n) (by omega)) (ih _ _ _ _ ⟨by rw [rdR_next hw hp], nI_1 p, rdL_of h2 (rdR_next hw hp)⟩)
  · rintro c x l m ⟨rfl, rfl, h1⟩ F
    rw [LN_listRoads_l4_s]
    unfold LN_listRoads_n4 LN_listRoads_n77
    refine ok_t (nI_le (Nat.le_refl n) (by omega)) (ok_s ?_)
    have hR : rdR n n = 1024 := if_neg (Nat.lt_irrefl n)
    rw [hR] at h1
    exact h1
theorem LN_lines_s {n : Nat} {lr ms pr sr wr : Int32} {li mn nn pa : Nat → Int32} {adj : Nat → Nat → Bool} (hw : WF n adj) (hb : Lb nn adj) (h32 : roadsN adj n ≤ 32) : Ok (LN_lines lr ms (nI n) pr sr wr li mn nn pa) (fun z => z.1 = nI (roadsN adj n) ∧ LFr (linA adj n) (roadsN adj n) z.2.1 z.2.2.2.1 z.2.2.2.2.1 z.2.2.2.2.2.1 z.2.2.2.2.2.2.1 z.2.2.2.2.2.2.2.2.2.1) := by
  have hn := hw.1
  unfold LN_lines
  refine ok_e (Net_roads_s hw hb) (ok_t ((nI_leI (b := 32) (by omega) (by decide)).mpr h32) (ok_b (LN_listRoads_s hw hb h32) (fun y hy => ok_b (Net_empty_f _ _ _) (fun z hz => ?_))))
  obtain ⟨l, m0⟩ := y
  have hy : ∀ k, k < roadsN adj n → l k = nI (lnc adj k / 32) ∧ m0 k = nI (lnc adj k % 32) := by rw [roads_ct hw]; exact hy
  obtain ⟨z1, z2⟩ := z
  obtain ⟨rfl, hz⟩ : z1 = nI (roadsN adj n) ∧ Lb z2 (fun _ _ => false) := hz
  refine fr2 (fun F x m => LN_lines_l31 F (nI (roadsN adj n)) x lr (nI (roadsN adj n)) (nI n) pr sr wr l m nn m0) (fun p x m => x = nI p ∧ Lb m (jn (roadsN adj n) (linT adj) p 0)) (roadsN adj n) (fuel_big (by omega)) ?_ ?_ 0 (Nat.zero_le _) 0 z2 ⟨rfl, by rw [jn_0]; exact hz⟩
  · rintro p hp x m ⟨rfl, h2⟩ F ih
    rw [LN_lines_l31_s]
    unfold LN_lines_n31
    refine ok_f (nI_ge hp (by omega)) ?_
    refine fr2 (fun F x m => LN_lines_l40 _ F (nI (roadsN adj n)) (nI p) x lr (nI (roadsN adj n)) (nI n) pr sr wr l m nn m0) (fun q x m => x = nI q ∧ p < q ∧ Lb m (jn (roadsN adj n) (linT adj) p q)) (roadsN adj n) (fuel_big (by omega)) ?_ ?_ (p + 1) (by omega) _ m ⟨nI_1 p, by omega, by rw [jn_row]; exact h2⟩
    · rintro q hq x m ⟨rfl, hpq, h3⟩ F2 ih2
      have c1 := lnc_lt hw hp
      have c2 := lnc_lt hw hq
      rw [LN_lines_l40_s]
      unfold LN_lines_n40 LN_lines_n105 LN_lines_n114
      refine ok_f (nI_ge hq (by omega)) (ok_g (inb_nI (by omega) (by omega)) (ok_g (inb_nI (by omega) (by omega)) ?_))
      rw [cl_nI (by omega), cl_nI (by omega), (hy p hp).1, (hy q hq).1, (hy p hp).2, (hy q hq).2]
      have yes : linT adj p q = true → Ok (bnd (Net_join (nI p) (nI q) (nI (roadsN adj n)) m) fun z1 => LN_lines_l40 (fun x1 x2 likeness_ready made_size now_size pairs_ready search_reach ways_ready list made_near now_near partner => LN_lines_l31 F x1 x2 likeness_ready made_size now_size pairs_ready search_reach ways_ready list made_near now_near partner) F2 (nI (roadsN adj n)) (nI p) (nI q + 1) lr (nI (roadsN adj n)) (nI n) pr sr wr l z1 nn m0) _ := fun ht => ok_b (Net_join_s h32 hp hq (by omega) h3) (fun m2 h4 => ih2 _ _ ⟨nI_1 q, by omega, by rw [← jn_yes (t := linT adj) hpq hq ht]; exact h4⟩)
      refine ok_i (fun g => yes (linT_t.mpr (Or.inl ((nI_eq (by omega) (by omega)).mp g)))) (fun g1 => ok_i (fun g => yes (linT_t.mpr (Or.inr (Or.inl ((nI_eq (by omega) (by omega)).mp g))))) (fun g2 => ok_i (fun g => yes (linT_t.mpr (Or.inr (Or.inr (Or.inl ((nI_eq (by omega) (by omega)).mp g)))))) (fun g3 => ok_i (fun g => yes (linT_t.mpr (Or.inr (Or.inr (Or.inr ((nI_eq (by omega) (by omega)).mp g)))))) (fun g4 => ih2 _ _ ⟨nI_1 q, by omega, ?_⟩))))
      rw [jn_no (t := linT adj) (linT_f (fun h => ?_))]
      · exact h3
      · rcases h with h | h | h | h
        · exact g1 (congrArg nI h)
        · exact g2 (congrArg nI h)
        · exact g3 (congrArg nI h)
        · exact g4 (congrArg nI h)
    · rintro x m ⟨rfl, hpq, h3⟩ F2
      rw [LN_lines_l40_s]
      unfold LN_lines_n40 LN_lines_n120
      exact ok_t (nI_le (Nat.le_refl _) (by omega)) (ih _ _ ⟨nI_1 p, by rw [← jn_end]; exact h3⟩)
  · rintro x m ⟨rfl, h2⟩ F
    rw [LN_lines_l31_s]
    unfold LN_lines_n31 LN_lines_n126
    rw [jn_all (fun a b h2 h3 _ => by omega)] at h2
    exact ok_t (nI_le (Nat.le_refl _) (by omega)) (ok_b (LN_adopt_s h2) (fun y hy => ok_s hy))
theorem LN_lines_n {n : Nat} {lr ms pr sr wr : Int32} {li mn nn pa : Nat → Int32} {adj : Nat → Nat → Bool} (hw : WF n adj) (hb : Lb nn adj) (h32 : ¬ roadsN adj n ≤ 32) : LN_lines lr ms (nI n) pr sr wr li mn nn pa = some (-2, lr, ms, nI n, pr, sr, wr, li, mn, nn, pa) := by
  have hle : roadsN adj n ≤ 1024 := by rw [roads_ct hw]; exact fb_ct_le _ _
  unfold LN_lines
  rw [bnd_at (Net_roads_s hw hb), if_neg (show ¬ nI (roadsN adj n) ≤ (32 : Int32) from fun g => h32 ((nI_leI (b := 32) (by omega) (by decide)).mp g))]
theorem M_lines_n {n : Nat} {ak im : Int32} {lp lq new road : Nat → Int32} {adj : Nat → Nat → Bool} (hw : WF n adj) (hb : Mb road adj) (h32 : ¬ roadsN adj n ≤ 32) : M_lines ak im (nI n) lp lq new road = some (-2, ak, im, nI n, lp, lq, new, road) := by
  have hle : roadsN adj n ≤ 1024 := by rw [roads_ct hw]; exact fb_ct_le _ _
  unfold M_lines
  rw [bnd_at (M_roads_s hw.1 hb), if_neg (show ¬ nI (roadsN adj n) ≤ (32 : Int32) from fun g => h32 ((nI_leI (b := 32) (by omega) (by decide)).mp g))]
theorem M_lines_s {n : Nat} {ak im : Int32} {lp lq new road : Nat → Int32} {adj : Nat → Nat → Bool} (hw : WF n adj) (hb : Mb road adj) (h32 : roadsN adj n ≤ 32) : Ok (M_lines ak im (nI n) lp lq new road) (fun z => z.1 = nI (roadsN adj n) ∧ MFr (linA adj n) (roadsN adj n) z.2.1 z.2.2.1 z.2.2.2.1 z.2.2.2.2.2.2.2) := by
  have hn := hw.1
  unfold M_lines
  refine ok_e (M_roads_s hn hb) (ok_t ((nI_leI (b := 32) (by omega) (by decide)).mpr h32) ?_)
  have h32' := h32
  rw [roads_ct hw] at h32'
  refine fr4 (fun F c x l m => M_lines_l16 F c x ak im (nI n) l m new road) (fun p c x l m => c = nI (fb_ct (rdP adj) (rdR n p)) ∧ x = nI p ∧ rdL adj (rdR n p) l m) n (fuel_big (by omega)) ?_ ?_ 0 (Nat.zero_le _) 0 0 lp lq ⟨by rw [rdR_0 hw]; rfl, rfl, fun k hk => by rw [rdR_0 hw] at hk; omega⟩
  · rintro p hp c x l m ⟨rfl, rfl, h1⟩ F ih
    have hR : rdR n p = 32 * p + (p + 1) := if_pos hp
    rw [hR] at h1 ⊢
    rw [M_lines_l16_s]
    unfold M_lines_n16
    refine ok_f (nI_ge hp (by omega)) ?_
    refine fr4 (fun F c x l m => M_lines_l28 _ F c (nI p) x ak im (nI n) l m new road) (fun q c x l m => c = nI (fb_ct (rdP adj) (32 * p + q)) ∧ x = nI q ∧ p < q ∧ rdL adj (32 * p + q) l m) n (fuel_big (by omega)) ?_ ?_ (p + 1) (by omega) _ _ l m ⟨rfl, nI_1 p, by omega, h1⟩
    · rintro q hq c x l m ⟨rfl, rfl, hpq, h2⟩ F2 ih2
      rw [M_lines_l28_s]
      unfold M_lines_n28 M_lines_n67
      rw [i32]
      refine ok_f (nI_ge hq (by omega)) (ok_g (inb_nI (by omega) (by omega)) ?_)
      rw [cl_nI (by omega), hb p (by omega) q (by omega)]
      have hP : rdP adj (32 * p + q) = adj p q := by rw [rdP_at (by omega), decide_eq_true hpq]; rfl
      cases ha : adj p q
      · rw [ha] at hP
        exact ok_t (by decide) (ih2 _ _ _ _ ⟨by rw [← Nat.add_assoc, fb_ct_succ, hP]; rfl, nI_1 q, by omega, by rw [← Nat.add_assoc]; exact rdL_no h2 hP⟩)
      · rw [ha] at hP
        have hlt := ct_lt (n := 1024) (by omega) hP
        refine ok_f (by decide) (ok_g (inb_nI (by omega) (by omega)) ?_)
        rw [cl_nI (by omega)]
        exact ih2 _ _ _ _ ⟨by rw [← Nat.add_assoc, fb_ct_succ, hP, nI_1]; rfl, nI_1 q, by omega, by rw [← Nat.add_assoc]; exact rdL_yes (by omega) (by omega) h2 hP⟩
    · rintro c x l m ⟨rfl, rfl, hpq, h2⟩ F2
      rw [M_lines_l28_s]
      unfold M_lines_n28 M_lines_n73
      exact ok_t (nI_le (Nat.le_refl n) (by omega)) (ih _ _ _ _ ⟨by rw [rdR_next hw hp], nI_1 p, rdL_of h2 (rdR_next hw hp)⟩)
  · rintro c x l m0 ⟨rfl, rfl, h1⟩ F
    rw [M_lines_l16_s]
    unfold M_lines_n16 M_lines_n79
    have hR : rdR n n = 1024 := if_neg (Nat.lt_irrefl n)
    rw [hR, ← roads_ct hw]
    rw [hR] at h1
    have hy : ∀ k, k < roadsN adj n → l k = nI (lnc adj k / 32) ∧ m0 k = nI (lnc adj k % 32) := by rw [roads_ct hw]; exact h1
    obtain ⟨T, hT⟩ : ∃ T : Nat → Nat → Bool, ∀ a b, T a b = (!decide (a = b) && linT adj a b) := ⟨fun a b => !decide (a = b) && linT adj a b, fun _ _ => rfl⟩
    have hTe : pnA (roadsN adj n) T = linA adj n := by
      refine pnA_jnA h32 (fun a b => ?_) (fun a => ?_) (fun a b h1 h2 => ?_)
      · rw [hT, hT, show decide (a = b) = decide (b = a) from decide_eq_decide.mpr ⟨Eq.symm, Eq.symm⟩, show linT adj a b = linT adj b a from bt_iff (by rw [linT_t, linT_t]; omega)]
      · rw [hT, decide_eq_true rfl]; rfl
      · rw [hT, decide_eq_false (by omega)]; rfl
    refine ok_t (nI_le (Nat.le_refl n) (by omega)) (ok_b (M_clearNew_f _) (fun z hz => ?_))
    refine fr2 (fun F x m => M_lines_l85 F (nI (roadsN adj n)) x ak im (nI n) l m0 m road) (fun p x m => x = nI p ∧ Mb m (pn (roadsN adj n) T p 0)) (roadsN adj n) (fuel_big (by omega)) ?_ ?_ 0 (Nat.zero_le _) 0 z ⟨rfl, by rw [pn_0]; exact hz⟩
    · rintro p hp x m ⟨rfl, h2⟩ F ih
      rw [M_lines_l85_s]
      unfold M_lines_n85
      refine ok_f (nI_ge hp (by omega)) ?_
      refine fr2 (fun F x m => M_lines_l92 _ F (nI (roadsN adj n)) (nI p) x ak im (nI n) l m0 m road) (fun q x m => x = nI q ∧ Mb m (pn (roadsN adj n) T p q)) (roadsN adj n) (fuel_big (by omega)) ?_ ?_ 0 (Nat.zero_le _) 0 m ⟨rfl, h2⟩
      · rintro q hq x m ⟨rfl, h3⟩ F2 ih2
        have c1 := lnc_lt hw hp
        have c2 := lnc_lt hw hq
        have h4 := Mb_pn h32 hp hq h3
        rw [M_lines_l92_s]
        unfold M_lines_n92 M_lines_n157 M_lines_n162 M_lines_n188 M_lines_n189
        refine ok_f (nI_ge hq (by omega)) (ok_g (inb_nI (by omega) (by omega)) (ok_g (inb_nI (by omega) (by omega)) ?_))
        rw [i32, cl_nI (by omega), cl_nI (by omega), cl_nI (by omega), (hy p hp).1, (hy q hq).1, (hy p hp).2, (hy q hq).2]
        have same : nI p = nI q → Ok (gd (inb (nI (32 * p + q)) 1024) <| gd (isb 0) <| M_lines_l92 (fun x1 x2 areKindsFound isMeasured posts lineP lineQ newRoad road => M_lines_l85 F x1 x2 areKindsFound isMeasured posts lineP lineQ newRoad road) F2 (nI (roadsN adj n)) (nI p) (nI q + 1) ak im (nI n) l m0 (upd m (32 * p + q) 0) road) (fun z => z.1 = nI (roadsN adj n) ∧ MFr (linA adj n) (roadsN adj n) z.2.1 z.2.2.1 z.2.2.2.1 z.2.2.2.2.2.2.2) := fun e => ok_g (inb_nI (by omega) (by omega)) (ok_g isb_0 (ih2 _ _ ⟨nI_1 q, by
          have e := (nI_eq (by omega) (by omega)).mp e
          rw [show T p q = false by rw [hT, decide_eq_true e]; rfl] at h4
          exact h4⟩))
        have yes : linT adj p q = true → ¬ nI p = nI q → Ok (gd (inb (nI (32 * p + q)) 1024) <| gd (isb 1) <| M_lines_l92 (fun x1 x2 areKindsFound isMeasured posts lineP lineQ newRoad road => M_lines_l85 F x1 x2 areKindsFound isMeasured posts lineP lineQ newRoad road) F2 (nI (roadsN adj n)) (nI p) (nI q + 1) ak im (nI n) l m0 (upd m (32 * p + q) 1) road) (fun z => z.1 = nI (roadsN adj n) ∧ MFr (linA adj n) (roadsN adj n) z.2.1 z.2.2.1 z.2.2.2.1 z.2.2.2.2.2.2.2) := fun ht e => ok_g (inb_nI (by omega) (by omega)) (ok_g isb_1 (ih2 _ _ ⟨nI_1 q, by
          rw [show T p q = true by rw [hT, decide_eq_false (fun h => e (congrArg nI h)), ht]; rfl] at h4
          exact h4⟩))
        refine ok_i (fun g => ok_i same (fun e => ok_f (by decide) (yes (linT_t.mpr (Or.inl ((nI_eq (by omega) (by omega)).mp g))) e))) (fun g1 => ok_i (fun g => ok_i same (fun e => ok_f (by decide) (yes (linT_t.mpr (Or.inr (Or.inl ((nI_eq (by omega) (by omega)).mp g)))) e))) (fun g2 => ok_i (fun g => ok_i same (fun e => ok_f (by decide) (yes (linT_t.mpr (Or.inr (Or.inr (Or.inl ((nI_eq (by omega) (by omega)).mp g))))) e))) (fun g3 => ok_i (fun g => ok_i same (fun e => ok_f (by decide) (yes (linT_t.mpr (Or.inr (Or.inr (Or.inr ((nI_eq (by omega) (by omega)).mp g))))) e))) (fun g4 => ok_i same (fun e => ok_t rfl (ok_g (inb_nI (by omega) (by omega)) (ok_g isb_0 (ih2 _ _ ⟨nI_1 q, ?_⟩))))))))
        rw [show T p q = false by
          rw [hT, linT_f (fun h => ?_), Bool.and_false]
          rcases h with h | h | h | h
          · exact g1 (congrArg nI h)
          · exact g2 (congrArg nI h)
          · exact g3 (congrArg nI h)
          · exact g4 (congrArg nI h)] at h4
        exact h4
      · rintro x m ⟨rfl, h3⟩ F2
        rw [M_lines_l92_s]
        unfold M_lines_n92 M_lines_n196
        exact ok_t (nI_le (Nat.le_refl _) (by omega)) (ih _ _ ⟨nI_1 p, by rw [← pn_end]; exact h3⟩)
    · rintro x m ⟨rfl, h2⟩ F
      rw [M_lines_l85_s]
      unfold M_lines_n85 M_lines_n202
      rw [pn_all, hTe] at h2
      exact ok_t (nI_le (Nat.le_refl _) (by omega)) (ok_b (M_become_f h2) (fun y hy => ok_s ⟨rfl, hy⟩))
