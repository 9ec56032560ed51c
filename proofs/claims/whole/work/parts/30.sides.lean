/-! of sides, folded -/
theorem bI_n0 : ¬ bI true = 0 := by decide
theorem and0 {x y : Int32} : x &&& y = 0 ↔ ∀ q, q < 32 → ¬ (bt x q = true ∧ bt y q = true) := by
  rw [bt_ne]
  constructor
  · intro h q hq c
    have := h q hq
    rw [b_and, c.1, c.2] at this
    cases this
  · intro h q hq
    rw [b_and]
    cases h1 : bt x q
    · rfl
    · cases h2 : bt y q
      · rfl
      · exact absurd ⟨h1, h2⟩ (h q hq)
theorem Wy_postsAt_b {n p q : Nat} {ly : Nat → Int32} {adj : Nat → Nat → Bool} (hw : WF n adj) (hp : p < n) (h : ∀ j, j < 32 → lyB adj n p j (ly (32 * p + j))) : Ok (Wy_postsAt (nI p) (if dN adj n p q < 33 then nI (dN adj n p q) else -1) ly) (fun m => ∀ y, y < 32 → (bt m y = true ↔ dN adj n p q < 33 ∧ dN adj n p y = dN adj n p q)) := by
  by_cases g : dN adj n p q < 33
  · rw [if_pos g]
    refine ok_m (Wy_postsAt_s hw hp (by omega) h) (fun m hm y hy => ?_)
    rw [hm y hy]
    constructor
    · rintro ⟨a, b⟩; exact ⟨g, a⟩
    · rintro ⟨a, b⟩; exact ⟨b, by omega⟩
  · rw [if_neg g]
    unfold Wy_postsAt Wy_postsAt_n10 Wy_postsAt_n25
    refine ok_t (by decide) (ok_s (fun y hy => ?_))
    rw [b_0]
    exact ⟨fun c => absurd c (by decide), fun c => absurd c.1 g⟩
def sdN (adj : Nat → Nat → Bool) (n p q y : Nat) : Prop := ¬ (dN adj n p q < 33 ∧ adj q y = true ∧ dN adj n p y = dN adj n p q)
def sdG (adj : Nat → Nat → Bool) (n p q x : Nat) : Prop := adj p q = true → dN adj n x p < 33 → ¬ dN adj n x p % 2 = dN adj n x q % 2
noncomputable def sidesB (adj : Nat → Nat → Bool) (n : Nat) : Bool := @decide (∀ p, p < n → ∀ q, q < n → ∀ y, y < n → sdN adj n p q y) (Classical.propDecidable _)
theorem sides_t {adj : Nat → Nat → Bool} {n : Nat} : sidesB adj n = true ↔ ∀ p, p < n → ∀ q, q < n → ∀ y, y < n → sdN adj n p q y := by
  unfold sidesB
  exact @decide_eq_true_iff _ (Classical.propDecidable _)
theorem dN_near {adj : Nat → Nat → Bool} {n x p q : Nat} (hw : WF n adj) (hx : x < n) (h : dN adj n x p < 33) (ha : adj p q = true) : dN adj n x q < 33 ∧ dN adj n x q ≤ dN adj n x p + 1 ∧ dN adj n x p ≤ dN adj n x q + 1 := by
  have hn := hw.1
  have h2 := dN_33 hw hx ha h
  have b1 := dN_bound hw hx h
  have b2 := dN_bound hw hx h2
  have hpq := hw.2.2.2 p q ha
  exact ⟨h2, dN_adj hpq.1 ha (by omega), dN_adj hpq.2 (by rw [hw.2.1]; exact ha) (by omega)⟩
theorem sides_g {adj : Nat → Nat → Bool} {n : Nat} (hw : WF n adj) : sidesB adj n = true ↔ ∀ p, p < n → ∀ q, q < n → ∀ x, x < n → sdG adj n p q x := by
  rw [sides_t]
  constructor
  · intro S p hp q hq x hx ha hd e
    have := dN_near hw hx hd ha
    exact S x hx p hp q hq ⟨hd, ha, by omega⟩
  · rintro S p hp q hq y hy ⟨hd, ha, e⟩
    exact S q hq y hy p hp ha hd (by rw [e])
theorem Wy_isOfSides_s {n : Nat} {near ly re st : Nat → Int32} {f sz wh : Int32} {adj : Nat → Nat → Bool} (hw : WF n adj) (hb : Lb near adj) (hl : LW adj n f sz wh ly re st) : Wy_isOfSides (nI n) ly near st = some (bI (sidesB adj n)) := by
  have hn := hw.1
  unfold Wy_isOfSides
  apply ok_eq
  refine fr1 (fun F a => Wy_isOfSides_l2 (nI n) ly near st F a) (fun i a => a = nI i ∧ ∀ p, p < i → ∀ q, q < n → ∀ y, y < n → sdN adj n p q y) n (fuel_big (by omega)) ?_ ?_ 0 (Nat.zero_le _) 0 ⟨rfl, fun p hp => absurd hp (Nat.not_lt_zero p)⟩
  · rintro p hp a ⟨rfl, h1⟩ F ih
    rw [Wy_isOfSides_l2_s]
    unfold Wy_isOfSides_n2
    refine ok_f (nI_ge hp (by omega)) ?_
    refine fr1 (fun G b => Wy_isOfSides_l12 _ (nI n) ly near st G (nI p) b) (fun j b => b = nI j ∧ ∀ q, q < j → ∀ y, y < n → sdN adj n p q y) n (fuel_big (by omega)) ?_ ?_ 0 (Nat.zero_le _) 0 ⟨rfl, fun q hq => absurd hq (Nat.not_lt_zero q)⟩
    · rintro q hq b ⟨rfl, h2⟩ G ih2
      rw [Wy_isOfSides_l12_s]
      unfold Wy_isOfSides_n12 Wy_isOfSides_n45
      refine ok_f (nI_ge hq (by omega)) (ok_e (Wy_between_s (by omega) (by omega) _) (ok_g (inb_nI (by omega) (by omega)) ?_))
      rw [hl.2.2.1 p hp q (by omega), cl_nI (by omega)]
      refine ok_b (Wy_postsAt_b hw hp (hl.2.1 p hp)) (fun m hm => ?_)
      refine ok_i (fun c => ih2 _ ⟨nI_1 q, fun q2 hq2 y hy => ?_⟩) (fun c => ok_s ?_)
      · rcases Nat.lt_or_ge q2 q with g | g
        · exact h2 q2 g y hy
        · have : q2 = q := by omega
          subst this
          rintro ⟨hd, ha, e⟩
          exact and0.mp c y (by omega) ⟨by rw [hb q2 (by omega) y (by omega)]; exact ha, (hm y (by omega)).mpr ⟨hd, e⟩⟩
      · have : sidesB adj n = false := by
          cases hs : sidesB adj n
          · rfl
          · exfalso
            refine c (and0.mpr (fun y hy g => ?_))
            rw [hb q (by omega) y hy, hm y hy] at g
            exact sides_t.mp hs p hp q hq y (hw.2.2.2 q y g.1).2 ⟨g.2.1, g.1, g.2.2⟩
        rw [this]; rfl
    · rintro b ⟨rfl, h2⟩ G
      rw [Wy_isOfSides_l12_s]
      unfold Wy_isOfSides_n12 Wy_isOfSides_n53
      refine ok_t (nI_le (Nat.le_refl n) (by omega)) (ih _ ⟨nI_1 p, fun p2 hp2 => ?_⟩)
      rcases Nat.lt_or_ge p2 p with g | g
      · exact h1 p2 g
      · have : p2 = p := by omega
        subst this
        exact h2
  · rintro a ⟨rfl, h1⟩ F
    rw [Wy_isOfSides_l2_s]
    unfold Wy_isOfSides_n2 Wy_isOfSides_n59
    refine ok_t (nI_le (Nat.le_refl n) (by omega)) (ok_s ?_)
    rw [sides_t.mpr h1]; rfl
theorem all_next {P : Nat → Prop} {k : Nat} : (∀ j, j < k + 1 → P j) ↔ (∀ j, j < k → P j) ∧ P k := by
  constructor
  · intro h; exact ⟨fun j hj => h j (by omega), h k (by omega)⟩
  · rintro ⟨h1, h2⟩ j hj
    rcases Nat.lt_or_ge j k with g | g
    · exact h1 j g
    · have : j = k := by omega
      subst this; exact h2
theorem all_none {P : Nat → Prop} : ∀ j, j < 0 → P j := fun j hj => absurd hj (Nat.not_lt_zero j)
theorem par_nI {d : Nat} (h : d < 33) : wy d - wy d / 2 * 2 = nI (d % 2) := by
  unfold wy
  rw [if_pos h, show (2 : Int32) = nI 2 from rfl]
  exact pk_rem (by omega) (by omega) (by omega)
theorem M_isOfSides_s {n : Nat} {road w0 : Nat → Int32} {f0 g0 im : Int32} {adj : Nat → Nat → Bool} (hw : WF n adj) (hb : Mb road adj) (hc : MC adj n f0 g0 im w0) : Ok (M_isOfSides f0 g0 im (nI n) road w0) (fun z => z.1 = bI (sidesB adj n) ∧ z.2.2.2.1 = 1 ∧ MW adj n z.2.1 z.2.2.1 z.2.2.2.2) := by
  have hn := hw.1
  unfold M_isOfSides
  refine ok_b (M_measure_c hw hb hc) (fun z hz => ?_)
  obtain ⟨f, g, i, w⟩ := z
  have hm : ∀ p, p < n → ∀ q, q < 32 → w (32 * p + q) = wy (dN adj n p q) := hz.2.1
  refine fr2 (fun F a b => M_isOfSides_l8 (nI n) road F a b f g i w) (fun p a b => b = nI p ∧ ∃ t, a = bI t ∧ (t = true ↔ ∀ p', p' < p → ∀ q, q < n → ∀ x, x < n → sdG adj n p' q x)) n (fuel_big (by omega)) ?_ ?_ 0 (Nat.zero_le _) 1 0 ⟨rfl, true, rfl, fun _ => all_none, fun _ => rfl⟩
  · rintro p hp a b ⟨rfl, t, rfl, h1⟩ F ih
    rw [M_isOfSides_l8_s]
    unfold M_isOfSides_n8
    refine ok_f (nI_ge hp (by omega)) ?_
    refine fr2 (fun F a c => M_isOfSides_l18 _ (nI n) road F a (nI p) c f g i w) (fun q a c => c = nI q ∧ ∃ t, a = bI t ∧ (t = true ↔ (∀ p', p' < p → ∀ q, q < n → ∀ x, x < n → sdG adj n p' q x) ∧ ∀ q', q' < q → ∀ x, x < n → sdG adj n p q' x)) n (fuel_big (by omega)) ?_ ?_ 0 (Nat.zero_le _) (bI t) 0 ⟨rfl, t, rfl, fun h => ⟨h1.mp h, all_none⟩, fun h => h1.mpr h.1⟩
    · rintro q hq a c ⟨rfl, t, rfl, h2⟩ F2 ih2
      rw [M_isOfSides_l18_s]
      unfold M_isOfSides_n18
      refine ok_f (nI_ge hq (by omega)) ?_
      refine fr2 (fun F a d => M_isOfSides_l29 _ (nI n) road F a (nI p) (nI q) d f g i w) (fun x a d => d = nI x ∧ ∃ t, a = bI t ∧ (t = true ↔ ((∀ p', p' < p → ∀ q, q < n → ∀ x, x < n → sdG adj n p' q x) ∧ ∀ q', q' < q → ∀ x, x < n → sdG adj n p q' x) ∧ ∀ x', x' < x → sdG adj n p q x')) n (fuel_big (by omega)) ?_ ?_ 0 (Nat.zero_le _) (bI t) 0 ⟨rfl, t, rfl, fun h => ⟨h2.mp h, all_none⟩, fun h => h2.mpr h.1⟩
      · rintro x hx a d ⟨rfl, t, rfl, h3⟩ F3 ih3
        rw [M_isOfSides_l29_s]
        unfold M_isOfSides_n29 M_isOfSides_n102 M_isOfSides_n98 M_isOfSides_n103 M_isOfSides_n110
        rw [i32, i32, i32]
        refine ok_f (nI_ge hx (by omega)) (ok_g (inb_nI (by omega) (by omega)) ?_)
        rw [cl_nI (by omega), cl_nI (by omega), cl_nI (by omega), hb p (by omega) q (by omega), hm x hx p (by omega), hm x hx q (by omega)]
        cases ha : adj p q
        · refine ok_t (by decide) (ih2 _ _ ⟨nI_1 q, t, rfl, ?_⟩)
          have nv : ∀ x, sdG adj n p q x := fun x h => by rw [ha] at h; cases h
          rw [h3, all_next, and_assoc]
          exact ⟨fun h => ⟨h.1, h.2.1, fun x _ => nv x⟩, fun h => ⟨h.1, h.2.1, fun x _ => nv x⟩⟩
        · refine ok_f (by decide) (ok_g (inb_nI (by omega) (by omega)) (ok_i (fun c => ?_) (fun c => ok_i (fun c2 => ?_) (fun c2 => ok_g (inb_nI (by omega) (by omega)) ?_))))
          · have ht : t = false := bI_eq0.mp c
            refine ih3 _ _ ⟨nI_1 x, false, rfl, fun h => by (cases h), fun h => ?_⟩
            rw [ht] at h3
            exact h3.mpr ⟨h.1, (all_next.mp h.2).1⟩
          · have ht : t = true := by cases t; exact absurd rfl c; rfl
            refine ih3 _ _ ⟨nI_1 x, true, rfl, fun _ => ⟨(h3.mp ht).1, all_next.mpr ⟨(h3.mp ht).2, fun _ hd => ?_⟩⟩, fun _ => rfl⟩
            exact absurd hd (wy_99.mp c2)
          · have ht : t = true := by cases t; exact absurd rfl c; rfl
            have hd : dN adj n x p < 33 := Classical.byContradiction (fun g => c2 (wy_99.mpr g))
            have hd2 := (dN_near hw hx hd ha).1
            rw [par_nI hd, par_nI hd2]
            refine ok_i (fun c3 => ?_) (fun c3 => ?_)
            · rw [nI_eq (by omega) (by omega)] at c3
              refine ih3 _ _ ⟨nI_1 x, false, rfl, fun h => by (cases h), fun h => ?_⟩
              exact absurd c3 ((all_next.mp h.2).2 ha hd)
            · rw [nI_eq (by omega) (by omega)] at c3
              exact ih3 _ _ ⟨nI_1 x, true, rfl, fun _ => ⟨(h3.mp ht).1, all_next.mpr ⟨(h3.mp ht).2, fun _ _ => c3⟩⟩, fun _ => rfl⟩
      · rintro a d ⟨rfl, t, rfl, h3⟩ F3
        rw [M_isOfSides_l29_s]
        unfold M_isOfSides_n29 M_isOfSides_n110
        refine ok_t (nI_le (Nat.le_refl n) (by omega)) (ih2 _ _ ⟨nI_1 q, t, rfl, ?_⟩)
        rw [h3, all_next, and_assoc]
    · rintro a c ⟨rfl, t, rfl, h2⟩ F2
      rw [M_isOfSides_l18_s]
      unfold M_isOfSides_n18 M_isOfSides_n116
      refine ok_t (nI_le (Nat.le_refl n) (by omega)) (ih _ _ ⟨nI_1 p, t, rfl, ?_⟩)
      rw [h2, all_next]
  · rintro a b ⟨rfl, t, rfl, h1⟩ F
    rw [M_isOfSides_l8_s]
    unfold M_isOfSides_n8 M_isOfSides_n122
    refine ok_t (nI_le (Nat.le_refl n) (by omega)) (ok_g (isb_bI t) (ok_s ⟨?_, hz.1, hz.2⟩))
    show bI t = _
    rw [bI_inj]
    refine bt_iff ?_
    rw [h1, sides_g hw]
/-! far as a number of the net alone -/
def farN (adj : Nat → Nat → Bool) (n : Nat) : Nat := fa_first (fun e => decide (∀ a, a < n → ∀ q, q < n → dN adj n a q < 33 → dN adj n a q ≤ e)) 33
theorem farN_eq {adj : Nat → Nat → Bool} {n e : Nat} (hw : WF n adj) (h : LM adj n n e) : farN adj n = e := by
  obtain ⟨h1, h2, h3⟩ := h
  have pe : decide (∀ a, a < n → ∀ q, q < n → dN adj n a q < 33 → dN adj n a q ≤ e) = true := decide_eq_true (fun a ha q _ hd => h2 a q ha hd)
  unfold farN
  rcases Nat.lt_or_ge (fa_first (fun e => decide (∀ a, a < n → ∀ q, q < n → dN adj n a q < 33 → dN adj n a q ≤ e)) 33) e with c | c
  · have := of_decide_eq_true (fa_first_yes (fun e => decide (∀ a, a < n → ∀ q, q < n → dN adj n a q < 33 → dN adj n a q ≤ e)) 33 (by omega))
    rcases h3 with h3 | ⟨a, q, ha, hq, h4⟩
    · omega
    · have := this a ha q hq (by omega)
      omega
  · rcases Nat.lt_or_ge e (fa_first (fun e => decide (∀ a, a < n → ∀ q, q < n → dN adj n a q < 33 → dN adj n a q ≤ e)) 33) with d | d
    · have := fa_first_no (fun e => decide (∀ a, a < n → ∀ q, q < n → dN adj n a q < 33 → dN adj n a q ≤ e)) 33 e d
      rw [pe] at this; cases this
    · omega
theorem FM_LM {adj : Nat → Nat → Bool} {n F : Nat} (hw : WF n adj) (h : wholeB adj n = true) (h1 : FM adj n n 0 F) : LM adj n n F := by
  have ha := (whole_all hw h).2
  obtain ⟨g1, g2, g3, g4⟩ := h1
  refine ⟨?_, fun a q hp hd => ?_, ?_⟩
  · rcases g4 with g4 | ⟨a, b, h2, h3, e⟩
    · omega
    · have := ha a b h2 h3
      unfold wv at e
      rw [if_pos this] at e
      omega
  · have := g2 a q hp (dN_lt hw hp hd)
    unfold wv at this
    rw [if_pos hd] at this
    exact this
  · rcases g4 with g4 | ⟨a, b, h2, h3, e⟩
    · exact Or.inl g4
    · refine Or.inr ⟨a, b, h2, h3, ?_⟩
      unfold wv at e
      rw [if_pos (ha a b h2 h3)] at e
      exact e
theorem MW_far {adj : Nat → Nat → Bool} {n : Nat} {f g : Int32} {w : Nat → Int32} (hw : WF n adj) (h : wholeB adj n = true) (hm : MW adj n f g w) : f = nI (farN adj n) := by
  obtain ⟨F, e, h1⟩ := hm.2.1
  rw [e, farN_eq hw (FM_LM hw h h1)]
theorem LW_far {adj : Nat → Nat → Bool} {n : Nat} {f s wh : Int32} {ly re st : Nat → Int32} (hw : WF n adj) (hl : LW adj n f s wh ly re st) : f = if wholeB adj n = true then nI (farN adj n) else -1 := by
  obtain ⟨e, h1, h2⟩ := hl.2.2.2.2.2
  rw [h2, farN_eq hw h1]
theorem farN_le {adj : Nat → Nat → Bool} {n : Nat} : farN adj n ≤ 33 := fa_first_le _ _
theorem LW_le {adj : Nat → Nat → Bool} {n : Nat} {f s wh : Int32} {ly re st : Nat → Int32} (hw : WF n adj) (hl : LW adj n f s wh ly re st) : LM adj n n (farN adj n) := by
  obtain ⟨e, h1, _⟩ := hl.2.2.2.2.2
  rw [farN_eq hw h1]; exact h1
def foldP (adj : Nat → Nat → Bool) (n p q x : Nat) : Prop := dN adj n p q = farN adj n → dN adj n q x = farN adj n → x = p ∨ dN adj n p x = farN adj n
noncomputable def foldedB (adj : Nat → Nat → Bool) (n : Nat) : Bool := @decide (wholeB adj n = true ∧ 1 ≤ farN adj n ∧ ∀ p, p < n → ∀ q, q < n → ∀ x, x < n → foldP adj n p q x) (Classical.propDecidable _)
theorem folded_t {adj : Nat → Nat → Bool} {n : Nat} : foldedB adj n = true ↔ wholeB adj n = true ∧ 1 ≤ farN adj n ∧ ∀ p, p < n → ∀ q, q < n → ∀ x, x < n → foldP adj n p q x := by
  unfold foldedB
  exact @decide_eq_true_iff _ (Classical.propDecidable _)
theorem folded_f {adj : Nat → Nat → Bool} {n : Nat} (h : ¬ (wholeB adj n = true ∧ 1 ≤ farN adj n ∧ ∀ p, p < n → ∀ q, q < n → ∀ x, x < n → foldP adj n p q x)) : foldedB adj n = false := by
  cases e : foldedB adj n
  · rfl
  · exact absurd (folded_t.mp e) h
theorem Wy_farGroup_s {n p : Nat} {ly : Nat → Int32} {adj : Nat → Nat → Bool} (hw : WF n adj) (hp : p < n) (h : ∀ j, j < 32 → lyB adj n p j (ly (32 * p + j))) (hf : farN adj n < 33) : Ok (Wy_farGroup (nI p) (nI (farN adj n)) ly) (fun m => ∀ y, y < 32 → (bt m y = true ↔ y = p ∨ dN adj n p y = farN adj n)) := by
  have hn := hw.1
  unfold Wy_farGroup
  refine ok_b (Wy_postsAt_s hw hp (by omega) h) (fun m hm => ok_s (fun y hy => ?_))
  rw [b_or, b_one (by omega) hy, Bool.or_eq_true, decide_eq_true_iff, hm y hy]
  constructor
  · rintro (a | ⟨a, _⟩)
    · exact Or.inl a
    · exact Or.inr a
  · rintro (a | a)
    · exact Or.inl a
    · exact Or.inr ⟨a, by omega⟩
theorem Wy_isFolded_s {n : Nat} {ly re st : Nat → Int32} {f sz wh : Int32} {adj : Nat → Nat → Bool} (hw : WF n adj) (hl : LW adj n f sz wh ly re st) : Wy_isFolded f (nI n) ly st = some (bI (foldedB adj n)) := by
  have hn := hw.1
  have hf := LW_far hw hl
  have hLM := LW_le hw hl
  unfold Wy_isFolded
  apply ok_eq
  by_cases hwh : wholeB adj n = true
  rotate_left
  · rw [if_neg hwh] at hf
    rw [hf, folded_f (fun h => hwh h.1)]
    exact ok_f (by decide) (ok_s rfl)
  rw [if_pos hwh] at hf
  rw [hf]
  have h32 := hLM.1
  have hal := (whole_all hw hwh).2
  refine ok_i (fun c => ?_) (fun c => ok_s ?_)
  rotate_left
  · rw [folded_f (fun h => c ((nI_leI (a := 1) (by decide) (by omega)).mpr h.2.1))]; rfl
  have h1 : 1 ≤ farN adj n := (nI_leI (a := 1) (by decide) (by omega)).mp c
  refine fr1 (fun F a => Wy_isFolded_l12 (nI (farN adj n)) (nI n) ly st F a) (fun i a => a = nI i ∧ ∀ p, p < i → ∀ q, p < q → q < n → dN adj n p q = farN adj n → ∀ y, y < 32 → ((y = p ∨ dN adj n p y = farN adj n) ↔ (y = q ∨ dN adj n q y = farN adj n))) n (fuel_big (by omega)) ?_ ?_ 0 (Nat.zero_le _) 0 ⟨rfl, all_none⟩
  · rintro p hp a ⟨rfl, g1⟩ F ih
    rw [Wy_isFolded_l12_s]
    unfold Wy_isFolded_n12
    refine ok_f (nI_ge hp (by omega)) ?_
    refine fr1 (fun G b => Wy_isFolded_l24 _ (nI (farN adj n)) (nI n) ly st G (nI p) b) (fun j b => b = nI j ∧ p < j ∧ ∀ q, q < j → p < q → dN adj n p q = farN adj n → ∀ y, y < 32 → ((y = p ∨ dN adj n p y = farN adj n) ↔ (y = q ∨ dN adj n q y = farN adj n))) n (fuel_big (by omega)) ?_ ?_ (p + 1) (by omega) _ ⟨nI_1 p, by omega, fun q h2 h3 => by omega⟩
    · rintro q hq b ⟨rfl, hpq, g2⟩ G ih2
      rw [Wy_isFolded_l24_s]
      unfold Wy_isFolded_n24 Wy_isFolded_n60 Wy_isFolded_n58
      refine ok_f (nI_ge hq (by omega)) (ok_e (Wy_between_s (by omega) (by omega) _) ?_)
      rw [hl.2.2.1 p hp q (by omega), if_pos (hal p q hp hq)]
      have hd := hal p q hp hq
      refine ok_i (fun c => ?_) (fun c => ih2 _ ⟨nI_1 q, by omega, all_next.mpr ⟨g2, fun _ e => absurd (congrArg nI e) c⟩⟩)
      rw [nI_eq (by omega) (by omega)] at c
      refine ok_b (Wy_farGroup_s hw hp (hl.2.1 p hp) (by omega)) (fun m1 hm1 => ok_b (Wy_farGroup_s hw hq (hl.2.1 q hq) (by omega)) (fun m2 hm2 => ok_i (fun c2 => ?_) (fun c2 => ok_s ?_)))
      · subst c2
        exact ih2 _ ⟨nI_1 q, by omega, all_next.mpr ⟨g2, fun _ _ y hy => by rw [← hm1 y hy, hm2 y hy]⟩⟩
      · rw [folded_f (fun h => c2 (b_ext (fun y hy => bt_iff ?_)))]; rfl
        rw [hm1 y hy, hm2 y hy]
        have hqp : dN adj n q p = farN adj n := by rw [dN_sym hw]; exact c
        constructor
        · rintro (e | e)
          · subst e; exact Or.inr hqp
          · exact h.2.2 q hq p hp y (dN_lt hw hp (by omega)) hqp e
        · rintro (e | e)
          · subst e; exact Or.inr c
          · exact h.2.2 p hp q hq y (dN_lt hw hq (by omega)) c e
    · rintro b ⟨rfl, hpq, g2⟩ G
      rw [Wy_isFolded_l24_s]
      unfold Wy_isFolded_n24 Wy_isFolded_n66
      exact ok_t (nI_le (Nat.le_refl n) (by omega)) (ih _ ⟨nI_1 p, all_next.mpr ⟨g1, fun q h2 h3 => g2 q h3 h2⟩⟩)
  · rintro a ⟨rfl, g1⟩ F
    rw [Wy_isFolded_l12_s]
    unfold Wy_isFolded_n12 Wy_isFolded_n72
    refine ok_t (nI_le (Nat.le_refl n) (by omega)) (ok_s ?_)
    rw [folded_t.mpr ⟨hwh, h1, fun p hp q hq x hx e1 e2 => ?_⟩]; rfl
    have hne : p ≠ q := fun e => by subst e; rw [dN_self] at e1; omega
    rcases Nat.lt_or_ge p q with c | c
    · exact (g1 p hp q c hq e1 x (by omega)).mpr (Or.inr e2)
    · exact (g1 q hq p (by omega) hp (by rw [dN_sym hw]; exact e1) x (by omega)).mp (Or.inr e2)
theorem M_isFar_s {n p q : Nat} {w : Nat → Int32} {f : Nat} {adj : Nat → Nat → Bool} (hn : n ≤ 32) (hp : p < n) (hq : q < n) (hm : ∀ p, p < n → ∀ q, q < 32 → w (32 * p + q) = wy (dN adj n p q)) (hd : dN adj n p q < 33) (hf : f < 34) : M_isFar (nI p) (nI q) (nI f) w = some (bI (decide (dN adj n p q = f))) := by
  unfold M_isFar M_isFar_n23
  rw [i32, gd_t (inb_nI (by omega) (by omega)), cl_nI (by omega), hm p hp q (by omega)]
  by_cases c : dN adj n p q = f
  · rw [decide_eq_true c, if_pos ((wy_nI (by omega) hd).mpr c)]; rfl
  · rw [decide_eq_false c, if_neg (fun e => c ((wy_nI (by omega) hd).mp e))]; rfl
theorem M_isFolded_s {n : Nat} {road w0 : Nat → Int32} {f0 g0 im : Int32} {adj : Nat → Nat → Bool} (hw : WF n adj) (hb : Mb road adj) (hc : MC adj n f0 g0 im w0) : Ok (M_isFolded f0 g0 im (nI n) road w0) (fun z => z.1 = bI (foldedB adj n) ∧ z.2.2.2.1 = 1 ∧ MW adj n z.2.1 z.2.2.1 z.2.2.2.2) := by
  have hn := hw.1
  unfold M_isFolded M_isFolded_n15
  refine ok_b (M_isWhole_s hw hb hc) (fun z hz => ?_)
  obtain ⟨r, f, g, i, w⟩ := z
  have hm : ∀ p, p < n → ∀ q, q < 32 → w (32 * p + q) = wy (dN adj n p q) := hz.2.2.1
  have hr : r = bI (wholeB adj n) := hz.1
  subst hr
  cases hwh : wholeB adj n
  · exact ok_t rfl (ok_s ⟨by rw [folded_f (fun h => by rw [hwh] at h; exact absurd h.1 (by decide))]; rfl, hz.2.1, hz.2.2⟩)
  refine ok_f bI_n0 ?_
  have hf : f = nI (farN adj n) := MW_far hw hwh hz.2.2
  subst hf
  have hal := (whole_all hw hwh).2
  have h33 := farN_le (adj := adj) (n := n)
  refine ok_i (fun c => ?_) (fun c => ok_s ⟨?_, hz.2.1, hz.2.2⟩)
  rotate_left
  · show (0 : Int32) = _
    rw [folded_f (fun h => c ((nI_leI (a := 1) (by decide) (by omega)).mpr h.2.1))]; rfl
  have h1 : 1 ≤ farN adj n := (nI_leI (a := 1) (by decide) (by omega)).mp c
  show Ok (M_isFolded_l21 (nI n) FUEL 1 0 (nI (farN adj n)) g i w) _
  refine fr2 (fun F a b => M_isFolded_l21 (nI n) F a b (nI (farN adj n)) g i w) (fun p a b => b = nI p ∧ ∃ t, a = bI t ∧ (t = true ↔ ∀ p', p' < p → ∀ q, q < n → ∀ x, x < n → foldP adj n p' q x)) n (fuel_big (by omega)) ?_ ?_ 0 (Nat.zero_le _) 1 0 ⟨rfl, true, rfl, fun _ => all_none, fun _ => rfl⟩
  · rintro p hp a b ⟨rfl, t, rfl, h1⟩ F ih
    rw [M_isFolded_l21_s]
    unfold M_isFolded_n21
    refine ok_f (nI_ge hp (by omega)) ?_
    refine fr2 (fun F a c => M_isFolded_l31 _ (nI n) F a (nI p) c (nI (farN adj n)) g i w) (fun q a c => c = nI q ∧ ∃ t, a = bI t ∧ (t = true ↔ (∀ p', p' < p → ∀ q, q < n → ∀ x, x < n → foldP adj n p' q x) ∧ ∀ q', q' < q → ∀ x, x < n → foldP adj n p q' x)) n (fuel_big (by omega)) ?_ ?_ 0 (Nat.zero_le _) (bI t) 0 ⟨rfl, t, rfl, fun h => ⟨h1.mp h, all_none⟩, fun h => h1.mpr h.1⟩
    · rintro q hq a c ⟨rfl, t, rfl, h2⟩ F2 ih2
      rw [M_isFolded_l31_s]
      unfold M_isFolded_n31
      refine ok_f (nI_ge hq (by omega)) ?_
      refine fr2 (fun F a d => M_isFolded_l42 _ (nI n) F a (nI p) (nI q) d (nI (farN adj n)) g i w) (fun x a d => d = nI x ∧ ∃ t, a = bI t ∧ (t = true ↔ ((∀ p', p' < p → ∀ q, q < n → ∀ x, x < n → foldP adj n p' q x) ∧ ∀ q', q' < q → ∀ x, x < n → foldP adj n p q' x) ∧ ∀ x', x' < x → foldP adj n p q x')) n (fuel_big (by omega)) ?_ ?_ 0 (Nat.zero_le _) (bI t) 0 ⟨rfl, t, rfl, fun h => ⟨h2.mp h, all_none⟩, fun h => h2.mpr h.1⟩
      · rintro x hx a d ⟨rfl, t, rfl, h3⟩ F3 ih3
        rw [M_isFolded_l42_s]
        unfold M_isFolded_n42 M_isFolded_n94 M_isFolded_n90 M_isFolded_n95 M_isFolded_n102
        refine ok_f (nI_ge hx (by omega)) (ok_e (M_isFar_s hn hp hq hm (hal p q hp hq) (by omega)) (ok_i (fun c => ?_) (fun c => ok_i (fun c2 => ?_) (fun c2 => ok_e (M_isFar_s hn hq hx hm (hal q x hq hx) (by omega)) ?_))))
        · have hne : ¬ dN adj n p q = farN adj n := of_decide_eq_false (bI_eq0.mp c)
          refine ih2 _ _ ⟨nI_1 q, t, rfl, ?_⟩
          have nv : ∀ x, foldP adj n p q x := fun x h => absurd h hne
          rw [h3, all_next, and_assoc]
          exact ⟨fun h => ⟨h.1, h.2.1, fun x _ => nv x⟩, fun h => ⟨h.1, h.2.1, fun x _ => nv x⟩⟩
        · have ht : t = false := bI_eq0.mp c2
          refine ih3 _ _ ⟨nI_1 x, false, rfl, fun h => by (cases h), fun h => ?_⟩
          rw [ht] at h3
          exact h3.mpr ⟨h.1, (all_next.mp h.2).1⟩
        · have ht : t = true := by cases t; exact absurd rfl c2; rfl
          have he : dN adj n p q = farN adj n := by
            apply Classical.byContradiction; intro e; rw [decide_eq_false e] at c; exact c rfl
          have yes : foldP adj n p q x → Ok (M_isFolded_l42 (fun x1 x2 x3 far heaps isMeasured wayOf => M_isFolded_l31 (fun x1 x2 far heaps isMeasured wayOf => M_isFolded_l21 (nI n) F x1 x2 far heaps isMeasured wayOf) (nI n) F2 x1 x2 x3 far heaps isMeasured wayOf) (nI n) F3 1 (nI p) (nI q) (nI x + 1) (nI (farN adj n)) g i w) _ := fun hp => ih3 _ _ ⟨nI_1 x, true, rfl, fun _ => ⟨(h3.mp ht).1, all_next.mpr ⟨(h3.mp ht).2, hp⟩⟩, fun _ => rfl⟩
          refine ok_i (fun c3 => yes (fun _ e2 => absurd e2 (of_decide_eq_false (bI_eq0.mp c3)))) (fun c3 => ok_i (fun c4 => yes (fun _ _ => Or.inl ((nI_eq (by omega) (by omega)).mp c4))) (fun c4 => ok_e (M_isFar_s hn hp hx hm (hal p x hp hx) (by omega)) (ok_i (fun c5 => ?_) (fun c5 => yes (fun _ _ => Or.inr ?_)))))
          · have e2 : dN adj n q x = farN adj n := by
              apply Classical.byContradiction; intro e; rw [decide_eq_false e] at c3; exact c3 rfl
            refine ih3 _ _ ⟨nI_1 x, false, rfl, fun h => by (cases h), fun h => ?_⟩
            rcases (all_next.mp h.2).2 he e2 with e | e
            · exact absurd (congrArg nI e) c4
            · exact absurd e (of_decide_eq_false (bI_eq0.mp c5))
          · apply Classical.byContradiction; intro e; rw [decide_eq_false e] at c5; exact c5 rfl
      · rintro a d ⟨rfl, t, rfl, h3⟩ F3
        rw [M_isFolded_l42_s]
        unfold M_isFolded_n42 M_isFolded_n102
        refine ok_t (nI_le (Nat.le_refl n) (by omega)) (ih2 _ _ ⟨nI_1 q, t, rfl, ?_⟩)
        rw [h3, all_next, and_assoc]
    · rintro a c ⟨rfl, t, rfl, h2⟩ F2
      rw [M_isFolded_l31_s]
      unfold M_isFolded_n31 M_isFolded_n108
      refine ok_t (nI_le (Nat.le_refl n) (by omega)) (ih _ _ ⟨nI_1 p, t, rfl, ?_⟩)
      rw [h2, all_next]
  · rintro a b ⟨rfl, t, rfl, g1⟩ F
    rw [M_isFolded_l21_s]
    unfold M_isFolded_n21 M_isFolded_n114
    refine ok_t (nI_le (Nat.le_refl n) (by omega)) (ok_g (isb_bI t) (ok_s ⟨?_, hz.2.1, hz.2.2⟩))
    show bI t = _
    rw [bI_inj]
    refine bt_iff ?_
    rw [g1, folded_t]
    exact ⟨fun h => ⟨hwh, h1, h⟩, fun h => h.2.2⟩
