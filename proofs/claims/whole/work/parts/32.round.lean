/-! the round -/
def rI (A : Nat → Nat → Bool) (n p i : Nat) (P : Nat → Prop) (w : Nat → Int32) : Prop :=
  ∀ z, z < n → (dN A n p z ≤ i → w z = nI (dN A n p z)) ∧ (¬ dN A n p z ≤ i → P z → w z = nI (i + 1)) ∧ (¬ dN A n p z ≤ i → ¬ P z → w z = 99)
theorem rI_congr {A : Nat → Nat → Bool} {n p i : Nat} {w : Nat → Int32} {P Q : Nat → Prop} (h : rI A n p i P w) (e : ∀ z, z < n → ¬ dN A n p z ≤ i → (P z ↔ Q z)) : rI A n p i Q w :=
  fun z hz => ⟨(h z hz).1, fun c q => (h z hz).2.1 c ((e z hz c).mpr q), fun c q => (h z hz).2.2 c (fun q2 => q ((e z hz c).mp q2))⟩
theorem rI_is {A : Nat → Nat → Bool} {n p i : Nat} {w : Nat → Int32} {P : Nat → Prop} (h : rI A n p i P w) (hi : i < 33) {q : Nat} (hq : q < n) : w q = nI i ↔ dN A n p q = i := by
  have hd := dN_le (adj := A) (n := n) p q
  by_cases c : dN A n p q ≤ i
  · rw [(h q hq).1 c, nI_eq (by omega) (by omega)]
  · by_cases c2 : P q
    · rw [(h q hq).2.1 c c2, nI_eq (by omega) (by omega)]; omega
    · rw [(h q hq).2.2 c c2, lit99, nI_eq (by omega) (by omega)]; omega
theorem rI_none {A : Nat → Nat → Bool} {n p i : Nat} {w : Nat → Int32} {P : Nat → Prop} (h : rI A n p i P w) (hi : i < 33) {q : Nat} (hq : q < n) : w q = 99 ↔ (¬ dN A n p q ≤ i ∧ ¬ P q) := by
  have hd := dN_le (adj := A) (n := n) p q
  by_cases c : dN A n p q ≤ i
  · rw [(h q hq).1 c, lit99, nI_eq (by omega) (by omega)]; omega
  · by_cases c2 : P q
    · rw [(h q hq).2.1 c c2, lit99, nI_eq (by omega) (by omega)]
      exact ⟨fun e => by omega, fun e => absurd c2 e.2⟩
    · rw [(h q hq).2.2 c c2]
      exact ⟨fun _ => ⟨c, c2⟩, fun _ => rfl⟩
theorem setA_f {adj : Nat → Nat → Bool} {p q x y : Nat} : setA adj p q false x y = true ↔ adj x y = true ∧ ¬ ((x = p ∧ y = q) ∨ (x = q ∧ y = p)) := by
  unfold setA
  by_cases c : (x = p ∧ y = q) ∨ (x = q ∧ y = p)
  · rw [if_pos c]; exact ⟨fun h => by (cases h), fun h => absurd c h.2⟩
  · rw [if_neg c]; exact ⟨fun h => ⟨h, c⟩, fun h => h.1⟩
theorem M_wayRound_s {n p q0 : Nat} {road l0 : Nat → Int32} {adj : Nat → Nat → Bool} (hw : WF n adj) (hb : Mb road adj) (hp : p < n) (hq0 : q0 < n) (hpq : p ≠ q0) : Ok (M_wayRound (nI p) (nI q0) (nI n) l0 road) (fun z => z.1 = wy (dN (setA adj p q0 false) n p q0)) := by
  have hn := hw.1
  obtain ⟨A, hA⟩ : ∃ A, A = setA adj p q0 false := ⟨_, rfl⟩
  have hwA : WF n A := by rw [hA]; exact WF_setA hw hp hq0 hpq
  have hAt : ∀ x y, A x y = true ↔ adj x y = true ∧ ¬ ((x = p ∧ y = q0) ∨ (x = q0 ∧ y = p)) := fun x y => by rw [hA]; exact setA_f
  rw [← hA]
  -- the y loop
  have ly : ∀ (i x : Nat), i < n → x < n → ∀ (k46 : Int32 → Int32 → Int32 → Int32 → (Nat → Int32) → Option (Int32 × (Nat → Int32))) (Po : (Int32 × (Nat → Int32)) → Prop), (∀ w, rI A n p i (fun z => ∃ a, a < x + 1 ∧ dN A n p a = i ∧ A a z = true) w → Ok (k46 (nI p) (nI q0) (nI i) (nI x + 1) w) Po) → ∀ w, rI A n p i (fun z => ∃ a, a < x ∧ dN A n p a = i ∧ A a z = true) w → Ok (M_wayRound_l58 k46 (nI n) road FUEL (nI p) (nI q0) (nI i) (nI x) 0 w) Po := by
    intro i x hi hx k46 Po hk w hI
    refine fr2 (fun F b w => M_wayRound_l58 k46 (nI n) road F (nI p) (nI q0) (nI i) (nI x) b w) (fun y b w => b = nI y ∧ rI A n p i (fun z => (∃ a, a < x ∧ dN A n p a = i ∧ A a z = true) ∨ (dN A n p x = i ∧ A x z = true ∧ z < y)) w) n (fuel_big (by omega)) ?_ ?_ 0 (Nat.zero_le _) 0 w ⟨rfl, rI_congr hI (fun z _ _ => ⟨Or.inl, fun h => h.elim id (fun h => absurd h.2.2 (Nat.not_lt_zero z))⟩)⟩
    · rintro y hy b w ⟨rfl, hI⟩ F ih
      rw [M_wayRound_l58_s]
      unfold M_wayRound_n58 M_wayRound_n156 M_wayRound_n110 M_wayRound_n106 M_wayRound_n111 M_wayRound_n142 M_wayRound_n149
      rw [i32]
      refine ok_f (nI_ge hy (by omega)) (ok_g (inb_nI (by omega) (by omega)) ?_)
      rw [cl_nI (by omega), cl_nI (by omega), cl_nI (by omega)]
      refine ok_i (fun c => ?_) (fun c => ?_)
      · have hdx := (rI_is hI (by omega) hx).mp c
        refine ok_g (inb_nI (by omega) (by omega)) ?_
        rw [hb x (by omega) y (by omega)]
        -- nothing new
        have keep : (A x y = true → ¬ w y = 99) → Ok (M_wayRound_l58 k46 (nI n) road F (nI p) (nI q0) (nI i) (nI x) (nI y + 1) (upd w y (w y))) Po := fun hno => by
          rw [fa_upd_same rfl]
          refine ih _ _ ⟨nI_1 y, rI_congr hI (fun z hz c3 => ⟨fun h => h.imp id (fun h => ⟨h.1, h.2.1, by omega⟩), fun h => ?_⟩)⟩
          rcases h with h | h
          · exact Or.inl h
          · by_cases e : z = y
            · subst e
              rcases Classical.em ((∃ a, a < x ∧ dN A n p a = i ∧ A a z = true) ∨ (dN A n p x = i ∧ A x z = true ∧ z < z)) with g | g
              · exact g
              · exact absurd ((rI_none hI (by omega) hy).mpr ⟨c3, g⟩) (hno h.2.1)
            · exact Or.inr ⟨h.1, h.2.1, by omega⟩
        have skip : A x y = false → Ok (gd (inb (nI y) 32) <| gd (inb (nI y) 32) <| M_wayRound_l58 k46 (nI n) road F (nI p) (nI q0) (nI i) (nI x) (nI y + 1) (upd w y (w y))) Po := fun ha => ok_g (inb_nI (by omega) (by omega)) (ok_g (inb_nI (by omega) (by omega)) (keep (fun h => by rw [ha] at h; cases h)))
        have take : adj x y = true → ¬ (x = p ∧ y = q0) → Ok (gd (inb (nI y) 32) <| (if w y = 99 then gd (inb (nI y) 32) <| M_wayRound_l58 k46 (nI n) road F (nI p) (nI q0) (nI i) (nI x) (nI y + 1) (upd w y (nI i + 1)) else gd (inb (nI y) 32) <| gd (inb (nI y) 32) <| M_wayRound_l58 k46 (nI n) road F (nI p) (nI q0) (nI i) (nI x) (nI y + 1) (upd w y (w y)))) Po := fun ha hne => by
          refine ok_g (inb_nI (by omega) (by omega)) (ok_i (fun c2 => ok_g (inb_nI (by omega) (by omega)) ?_) (fun c2 => ok_g (inb_nI (by omega) (by omega)) (ok_g (inb_nI (by omega) (by omega)) (keep (fun _ => c2)))))
          have hnone := (rI_none hI (by omega) hy).mp c2
          have hAy : A x y = true := (hAt x y).mpr ⟨ha, fun h => by
            rcases h with h | h
            · exact hne h
            · rw [h.2, dN_self] at hnone; exact hnone.1 (Nat.zero_le _)⟩
          refine ih _ _ ⟨nI_1 y, fun z hz => ?_⟩
          show (_ → upd w y (nI i + 1) z = _) ∧ (_ → _ → upd w y (nI i + 1) z = _) ∧ (_ → _ → upd w y (nI i + 1) z = _)
          by_cases e : z = y
          · subst e
            rw [updS, nI_1]
            exact ⟨fun h => absurd h hnone.1, fun _ _ => rfl, fun _ h => absurd (Or.inr ⟨hdx, hAy, by omega⟩) h⟩
          · rw [updN e]
            refine ⟨(hI z hz).1, fun c3 h => (hI z hz).2.1 c3 (h.imp id (fun h => ⟨h.1, h.2.1, by omega⟩)), fun c3 h => (hI z hz).2.2 c3 (fun h2 => h (h2.imp id (fun h => ⟨h.1, h.2.1, by omega⟩)))⟩
        have zero : (if (0 : Int32) = 0 then gd (inb (nI y) 32) <| gd (inb (nI y) 32) <| M_wayRound_l58 k46 (nI n) road F (nI p) (nI q0) (nI i) (nI x) (nI y + 1) (upd w y (w y)) else gd (inb (nI y) 32) <| (if w y = 99 then gd (inb (nI y) 32) <| M_wayRound_l58 k46 (nI n) road F (nI p) (nI q0) (nI i) (nI x) (nI y + 1) (upd w y (nI i + 1)) else gd (inb (nI y) 32) <| gd (inb (nI y) 32) <| M_wayRound_l58 k46 (nI n) road F (nI p) (nI q0) (nI i) (nI x) (nI y + 1) (upd w y (w y)))) = (gd (inb (nI y) 32) <| gd (inb (nI y) 32) <| M_wayRound_l58 k46 (nI n) road F (nI p) (nI q0) (nI i) (nI x) (nI y + 1) (upd w y (w y))) := if_pos rfl
        cases ha : adj x y
        · refine ok_t (by decide) (ok_t rfl (skip ?_))
          cases g : A x y
          · rfl
          · rw [((hAt x y).mp g).1] at ha; cases ha
        · refine ok_f (by decide) (ok_i (fun c1 => ok_i (fun c2 => ok_t rfl (skip ?_)) (fun c2 => ok_f (by decide) (take ha (fun h => c2 (congrArg nI h.2))))) (fun c1 => ok_f (by decide) (take ha (fun h => c1 (congrArg nI h.1)))))
          rw [nI_eq (by omega) (by omega)] at c1 c2
          cases g : A x y
          · rfl
          · exact absurd (Or.inl ⟨c1, c2⟩) ((hAt x y).mp g).2
      · have hdx : dN A n p x ≠ i := fun e => c ((rI_is hI (by omega) hx).mpr e)
        refine hk w (rI_congr hI (fun z _ _ => ?_))
        constructor
        · rintro (⟨a, ha, h1, h2⟩ | h)
          · exact ⟨a, by omega, h1, h2⟩
          · exact absurd h.1 hdx
        · rintro ⟨a, ha, h1, h2⟩
          by_cases e : a = x
          · subst e; exact absurd h1 hdx
          · exact Or.inl ⟨a, by omega, h1, h2⟩
    · rintro b w ⟨rfl, hI⟩ F
      rw [M_wayRound_l58_s]
      unfold M_wayRound_n58 M_wayRound_n156
      refine ok_t (nI_le (Nat.le_refl n) (by omega)) (hk w (rI_congr hI (fun z _ _ => ?_)))
      constructor
      · rintro (⟨a, ha, h1, h2⟩ | h)
        · exact ⟨a, by omega, h1, h2⟩
        · exact ⟨x, by omega, h.1, h.2.1⟩
      · rintro ⟨a, ha, h1, h2⟩
        by_cases e : a = x
        · subst e; exact Or.inr ⟨h1, h2, (hwA.2.2.2 a z h2).2⟩
        · exact Or.inl ⟨a, by omega, h1, h2⟩
  -- the beginning
  unfold M_wayRound
  refine fr2 (fun F b w => M_wayRound_l2 (nI n) road F (nI p) (nI q0) b w) (fun i b w => b = nI i ∧ ∀ q, q < i → w q = if q = p then 0 else 99) n (fuel_big (by omega)) ?_ ?_ 0 (Nat.zero_le _) 0 l0 ⟨rfl, all_none⟩
  · rintro i hi b w ⟨rfl, e2⟩ F ih
    rw [M_wayRound_l2_s]
    unfold M_wayRound_n2 M_wayRound_n26
    have fin : ∀ v : Int32, v = (if i = p then 0 else 99) → Ok (M_wayRound_l2 (nI n) road F (nI p) (nI q0) (nI i + 1) (upd w i v)) (fun z => z.1 = wy (dN A n p q0)) := fun v hv => ih _ _ ⟨nI_1 i, all_next.mpr ⟨fun q hq => by rw [updN (by omega)]; exact e2 q hq, by rw [updS, hv]⟩⟩
    rw [cl_nI (by omega)]
    refine ok_f (nI_ge hi (by omega)) (ok_i (fun c => ok_g (inb_nI (by omega) (by omega)) ?_) (fun c => ok_g (inb_nI (by omega) (by omega)) ?_))
    · exact fin 0 (by rw [if_pos ((nI_eq (by omega) (by omega)).mp c)])
    · exact fin 99 (by rw [if_neg ((nI_ne (by omega) (by omega)).mp c)])
  · rintro b w ⟨rfl, e2⟩ F
    rw [M_wayRound_l2_s]
    unfold M_wayRound_n2 M_wayRound_n33
    refine ok_t (nI_le (Nat.le_refl n) (by omega)) ?_
    -- the passes
    refine fr2 (fun F b w => M_wayRound_l35 (nI n) road F (nI p) (nI q0) b w) (fun i b w => b = nI i ∧ rI A n p i (fun _ => False) w) n (fuel_big (by omega)) ?_ ?_ 0 (Nat.zero_le _) 0 w ⟨rfl, fun z hz => ⟨fun c => ?_, fun _ h => h.elim, fun c _ => ?_⟩⟩
    · rintro i hi b w ⟨rfl, hI⟩ F ih
      rw [M_wayRound_l35_s]
      unfold M_wayRound_n35
      refine ok_f (nI_ge hi (by omega)) ?_
      refine fr2 (fun F b w => M_wayRound_l46 _ (nI n) road F (nI p) (nI q0) (nI i) b w) (fun x b w => b = nI x ∧ rI A n p i (fun z => ∃ a, a < x ∧ dN A n p a = i ∧ A a z = true) w) n (fuel_big (by omega)) ?_ ?_ 0 (Nat.zero_le _) 0 w ⟨rfl, rI_congr hI (fun z _ _ => ⟨False.elim, fun ⟨x, hx, _⟩ => absurd hx (Nat.not_lt_zero x)⟩)⟩
      · rintro x hx b w ⟨rfl, hI⟩ F2 ih2
        rw [M_wayRound_l46_s]
        unfold M_wayRound_n46
        exact ok_f (nI_ge hx (by omega)) (ly i x hi hx _ _ (fun w h => ih2 _ _ ⟨nI_1 x, h⟩) w hI)
      · rintro b w ⟨rfl, hI⟩ F2
        rw [M_wayRound_l46_s]
        unfold M_wayRound_n46 M_wayRound_n162
        refine ok_t (nI_le (Nat.le_refl n) (by omega)) (ih _ _ ⟨nI_1 i, fun z hz => ⟨fun c => ?_, fun _ h => h.elim, fun c _ => ?_⟩⟩)
        · by_cases e : dN A n p z ≤ i
          · exact (hI z hz).1 e
          · have e2 : dN A n p z = i + 1 := by omega
            rw [e2]
            exact (hI z hz).2.1 e ((dN_next hwA (by omega)).mp e2).2
        · refine (hI z hz).2.2 (by omega) (fun h => ?_)
          have := (dN_next (p := p) (q := z) hwA (k := i) (by omega)).mpr ⟨by omega, h⟩
          omega
    · rintro b w ⟨rfl, hI⟩ F
      rw [M_wayRound_l35_s]
      unfold M_wayRound_n35 M_wayRound_n168
      refine ok_t (nI_le (Nat.le_refl n) (by omega)) (ok_g (inb_nI (by omega) (by omega)) (ok_s ?_))
      show w (nI q0).toNatClampNeg = _
      rw [cl_nI (by omega)]
      unfold wy
      by_cases c : dN A n p q0 < 33
      · rw [if_pos c]
        exact (hI q0 hq0).1 (Nat.le_of_lt (dN_bound hwA hp c))
      · rw [if_neg c]
        exact (hI q0 hq0).2.2 (by omega) (fun h => h)
    · have e : p = z := dN_zero.mp (Nat.le_zero.mp c)
      rw [e2 z hz, if_pos e.symm, Nat.le_zero.mp c]; rfl
    · rw [e2 z hz, if_neg (fun e => c (by rw [e, dN_self]; exact Nat.le_refl 0))]
/-! rings: the two ways of seeing the least one -/
theorem Rc_comp {A : Nat → Nat → Bool} {n a b c : Nat} {k j : Nat} (hw : WF n A) (h1 : Rc A n k a b = true) (h2 : Rc A n j b c = true) : Rc A n (k + j) a c = true := by
  induction j generalizing c with
  | zero => rw [← Rc_zero.mp h2]; exact h1
  | succ j ih =>
    rcases Rc_succ.mp h2 with h | ⟨x, hx, h, ha⟩
    · exact Rc_mono (ih h)
    · exact Rc_step hx (ih h) ha
theorem dN_tri {A : Nat → Nat → Bool} {n a b c : Nat} (hw : WF n A) (ha : a < n) (h1 : dN A n a b < 33) (h2 : dN A n b c < 33) : dN A n a c ≤ dN A n a b + dN A n b c := by
  have h3 := dN_bound hw ha (dN_trans hw ha h1 h2)
  have hn := hw.1
  rcases Nat.lt_or_ge (dN A n a b + dN A n b c) 33 with g | g
  · exact (Rc_iff g).mp (Rc_comp hw (dN_yes h1) (dN_yes h2))
  · omega
def rg (adj : Nat → Nat → Bool) (n u v : Nat) : Nat := dN (setA adj u v false) n u v
theorem setA_sym (adj : Nat → Nat → Bool) (u v : Nat) (b : Bool) : setA adj u v b = setA adj v u b := by
  funext x y
  unfold setA
  by_cases c : (x = u ∧ y = v) ∨ (x = v ∧ y = u)
  · rw [if_pos c, if_pos (by omega)]
  · rw [if_neg c, if_neg (by omega)]
theorem rg_sym {adj : Nat → Nat → Bool} {n u v : Nat} (hw : WF n adj) (hu : u < n) (hv : v < n) (h : u ≠ v) : rg adj n u v = rg adj n v u := by
  unfold rg
  rw [dN_sym (WF_setA hw hu hv h), setA_sym]
def rsN (adj : Nat → Nat → Bool) (n p q : Nat) : Nat := if 1 ≤ dN adj n p q ∧ dN adj n p q < 33 then (if 1 < bsN adj n p q (dN adj n p q - 1) then 2 * dN adj n p q else if 0 < bsN adj n p q (dN adj n p q) then 2 * dN adj n p q + 1 else 0) else 0
theorem bsN_pos {adj : Nat → Nat → Bool} {n p q w : Nat} : 0 < bsN adj n p q w ↔ ∃ x, x < n ∧ adj q x = true ∧ dN adj n p x = w := by
  unfold bsN
  rw [fb_ct_pos]
  constructor
  · rintro ⟨x, hx, h⟩
    rw [Bool.and_eq_true, decide_eq_true_iff] at h
    exact ⟨x, hx, h⟩
  · rintro ⟨x, hx, h⟩
    exact ⟨x, hx, by rw [Bool.and_eq_true, decide_eq_true_iff]; exact h⟩
theorem ct_two {P : Nat → Bool} : ∀ {n : Nat}, 1 < fb_ct P n ↔ ∃ x y, x < y ∧ y < n ∧ P x = true ∧ P y = true := by
  intro n
  induction n with
  | zero => exact ⟨fun h => by have := fb_ct_le P 0; omega, fun ⟨x, y, _, h, _⟩ => by omega⟩
  | succ n ih =>
    rw [fb_ct_succ]
    constructor
    · intro h
      cases hp : P n
      · rw [hp] at h
        obtain ⟨x, y, h1, h2, h3⟩ := ih.mp h
        exact ⟨x, y, h1, by omega, h3⟩
      · rw [hp] at h
        have : 0 < fb_ct P n := by
          have e : (if true = true then 1 else 0 : Nat) = 1 := rfl
          omega
        obtain ⟨x, hx, h3⟩ := fb_ct_pos.mp this
        exact ⟨x, n, hx, by omega, h3, hp⟩
    · rintro ⟨x, y, h1, h2, h3, h4⟩
      by_cases e : y = n
      · subst e
        have := fb_ct_pos.mpr ⟨x, h1, h3⟩
        rw [h4]
        have e : (if true = true then 1 else 0 : Nat) = 1 := rfl
        omega
      · have := ih.mpr ⟨x, y, h1, by omega, h3, h4⟩
        omega
theorem bsN_two {adj : Nat → Nat → Bool} {n p q w : Nat} : 1 < bsN adj n p q w ↔ ∃ x y, x < n ∧ y < n ∧ x ≠ y ∧ (adj q x = true ∧ dN adj n p x = w) ∧ adj q y = true ∧ dN adj n p y = w := by
  unfold bsN
  rw [ct_two]
  constructor
  · rintro ⟨x, y, h1, h2, h3, h4⟩
    rw [Bool.and_eq_true, decide_eq_true_iff] at h3 h4
    exact ⟨x, y, by omega, h2, by omega, h3, h4⟩
  · rintro ⟨x, y, h1, h2, h3, h4, h5⟩
    rcases Nat.lt_or_ge x y with c | c
    · exact ⟨x, y, c, h2, by rw [Bool.and_eq_true, decide_eq_true_iff]; exact h4, by rw [Bool.and_eq_true, decide_eq_true_iff]; exact h5⟩
    · exact ⟨y, x, by omega, h1, by rw [Bool.and_eq_true, decide_eq_true_iff]; exact h5, by rw [Bool.and_eq_true, decide_eq_true_iff]; exact h4⟩
/-- without a road at q, posts that aren't q are as near as they were -/
theorem cut_near {adj : Nat → Nat → Bool} {n p q x i : Nat} (hw : WF n adj) (hq : dN adj n p q = i) : ∀ (k z : Nat), k < 33 → dN adj n p z = k → k ≤ i → z ≠ q → dN (setA adj q x false) n p z ≤ k := by
  intro k
  induction k with
  | zero =>
    intro z _ hz _ _
    rw [← dN_zero.mp hz, dN_self]; exact Nat.le_refl 0
  | succ k ih =>
    intro z hk hz hi hne
    obtain ⟨y, hy, h1, h2⟩ := dN_pred hk hz
    have hyq : y ≠ q := fun e => by rw [e] at h1; omega
    have h3 := ih y (by omega) h1 (by omega) hyq
    have h4 : setA adj q x false y z = true := setA_f.mpr ⟨h2, by omega⟩
    have := dN_adj (p := p) hy h4 (by omega)
    omega
/-- the end q too, if it has another post before it -/
theorem cut_end {adj : Nat → Nat → Bool} {n p q x y i : Nat} (hw : WF n adj) (hq : dN adj n p q = i) (hi : i < 33) (h1 : 1 ≤ i) (hy : y < n) (hyx : y ≠ x) (ha : adj q y = true) (hd : dN adj n p y = i - 1) : dN (setA adj q x false) n p q ≤ i := by
  have hyq : y ≠ q := fun e => by rw [e] at hd; omega
  have h3 := cut_near (x := x) hw hq (i - 1) y (by omega) hd (by omega) hyq
  have h4 : setA adj q x false y q = true := setA_f.mpr ⟨by rw [hw.2.1]; exact ha, by omega⟩
  have := dN_adj (p := p) hy h4 (by omega)
  omega
theorem ring_A {adj : Nat → Nat → Bool} {n p q : Nat} (hw : WF n adj) (hp : p < n) (hq : q < n) (h : 0 < rsN adj n p q) : ∃ u v, v < u ∧ u < n ∧ adj u v = true ∧ rg adj n u v < 33 ∧ rg adj n u v + 1 ≤ rsN adj n p q := by
  have hn := hw.1
  unfold rsN at h ⊢
  by_cases c : 1 ≤ dN adj n p q ∧ dN adj n p q < 33
  rotate_left
  · rw [if_neg c] at h; omega
  rw [if_pos c] at h ⊢
  -- a road q x whose ends are seen without it
  have fin : ∀ x y g, x < n → y < n → y ≠ x → adj q x = true → adj q y = true → dN adj n p y = dN adj n p q - 1 → dN adj n p x ≤ dN adj n p q → dN adj n p q + dN adj n p x + 1 ≤ g → ∃ u v, v < u ∧ u < n ∧ adj u v = true ∧ rg adj n u v < 33 ∧ rg adj n u v + 1 ≤ g := by
    intro x y g hx hy hyx a1 a2 d1 d2 hg
    have hxq : x ≠ q := fun e => by rw [e, hw.2.2.1] at a1; cases a1
    have hwA : WF n (setA adj q x false) := WF_setA hw hq hx (Ne.symm hxq)
    have e1 := cut_end hw rfl c.2 c.1 hy hyx a2 d1
    have e2 := cut_near (x := x) hw (rfl : dN adj n p q = dN adj n p q) (dN adj n p x) x (by omega) rfl d2 hxq
    have e3 := dN_tri hwA hq (b := p) (c := x) (by rw [dN_sym hwA]; omega) (by omega)
    rw [dN_sym hwA q p] at e3
    have e4 := dN_trans hwA hq (q := p) (r := x) (by rw [dN_sym hwA]; omega) (by omega)
    have e5 : rg adj n q x < 33 ∧ rg adj n q x + 1 ≤ g := by unfold rg; omega
    rcases Nat.lt_or_ge x q with o | o
    · exact ⟨q, x, o, hq, a1, e5⟩
    · refine ⟨x, q, by omega, hx, by rw [hw.2.1]; exact a1, ?_⟩
      rw [rg_sym hw hx hq hxq]; exact e5
  by_cases c2 : 1 < bsN adj n p q (dN adj n p q - 1)
  · rw [if_pos c2]
    obtain ⟨x, y, hx, hy, hne, ⟨a1, d1⟩, a2, d2⟩ := bsN_two.mp c2
    exact fin x y _ hx hy (Ne.symm hne) a1 a2 d2 (by omega) (by omega)
  · rw [if_neg c2] at h ⊢
    by_cases c3 : 0 < bsN adj n p q (dN adj n p q)
    rotate_left
    · rw [if_neg c3] at h; omega
    rw [if_pos c3]
    obtain ⟨x, hx, a1, d1⟩ := bsN_pos.mp c3
    obtain ⟨y, hy, d2, a2⟩ := dN_pred (adj := adj) (n := n) (p := p) (q := q) (k := dN adj n p q - 1) (by omega) (by omega)
    exact fin x y _ hx hy (fun e => by rw [e] at d2; omega) a1 (by rw [hw.2.1]; exact a2) d2 (by omega) (by omega)
theorem cut_le {adj : Nat → Nat → Bool} {n u v p : Nat} (hw : WF n adj) : ∀ (k z : Nat), k < 33 → Rc (setA adj u v false) n k p z = true → Rc adj n k p z = true := by
  intro k
  induction k with
  | zero => intro z _ h; rw [Rc_zero] at h ⊢; exact h
  | succ k ih =>
    intro z hk h
    rcases Rc_succ.mp h with h | ⟨x, hx, h, ha⟩
    · exact Rc_mono (ih z (by omega) h)
    · exact Rc_step hx (ih x (by omega) h) (setA_f.mp ha).1
theorem cut_ge {adj : Nat → Nat → Bool} {n u v p z : Nat} (hw : WF n adj) (h : dN (setA adj u v false) n p z < 33) : dN adj n p z ≤ dN (setA adj u v false) n p z := (Rc_iff h).mp (cut_le hw _ z h (dN_yes h))
theorem ring_B {adj : Nat → Nat → Bool} {n u v : Nat} (hw : WF n adj) (hu : u < n) (hv : v < n) (ha : adj u v = true) (h : rg adj n u v < 33) : ∃ q, q < n ∧ 0 < rsN adj n u q ∧ rsN adj n u q ≤ rg adj n u v + 1 := by
  have hn := hw.1
  have huv : u ≠ v := fun e => by rw [e, hw.2.2.1] at ha; cases ha
  have hwA : WF n (setA adj u v false) := WF_setA hw hu hv huv
  unfold rg at h ⊢
  obtain ⟨A, hA⟩ : ∃ A, A = setA adj u v false := ⟨_, rfl⟩
  rw [← hA] at h hwA ⊢
  have hge : ∀ z, dN A n u z < 33 → dN adj n u z ≤ dN A n u z := fun z hz => by rw [hA] at hz ⊢; exact cut_ge hw hz
  have hgv : ∀ z, dN A n z v < 33 → dN adj n z v ≤ dN A n z v := fun z hz => by rw [hA] at hz ⊢; exact cut_ge hw hz
  have h1 : dN adj n u v ≤ 1 := by
    have := dN_adj (adj := adj) (n := n) (p := u) (x := u) (q := v) hu ha (by rw [dN_self]; omega)
    rw [dN_self] at this; exact this
  -- the first post of a least way round that is nearer by the whole net
  have hm2 : 1 < dN A n u v := by
    rcases Nat.lt_or_ge 1 (dN A n u v) with g | g
    · exact g
    · exfalso
      have h0 : dN A n u v ≠ 0 := fun e => huv (dN_zero.mp e)
      obtain ⟨x, hx, d, a⟩ := dN_pred (adj := A) (n := n) (p := u) (q := v) (k := 0) (by omega) (by omega)
      have := dN_zero.mp d
      subst this
      rw [hA] at a
      exact (setA_f.mp a).2 (Or.inl ⟨rfl, rfl⟩)
  obtain ⟨k, ⟨z, hz, e1, e2, e3, e4⟩, hmin⟩ := pk_least (fun k => ∃ z, z < n ∧ dN A n u z = k ∧ dN adj n u z < k ∧ dN A n z v < 33 ∧ k + dN A n z v ≤ dN A n u v) ⟨dN A n u v, v, hv, rfl, by omega, by rw [dN_self]; omega, by rw [dN_self]; omega⟩
  obtain ⟨k, rfl⟩ : ∃ j, k = j + 1 := ⟨k - 1, by omega⟩
  obtain ⟨y, hy, d1, a1⟩ := dN_pred (adj := A) (n := n) (p := u) (q := z) (k := k) (by omega) e1
  have a1' : adj y z = true := by rw [hA] at a1; exact (setA_f.mp a1).1
  have hyz : dN A n y z ≤ 1 := by
    have := dN_adj (adj := A) (n := n) (p := y) (x := y) (q := z) hy a1 (by rw [dN_self]; omega)
    rw [dN_self] at this; exact this
  have hyv1 := dN_trans hwA hy (q := z) (r := v) (by omega) e3
  have hyv := dN_tri hwA hy (b := z) (c := v) (by omega) e3
  have dy : dN adj n u y = k := by
    have g1 := hge y (by omega)
    rcases Nat.lt_or_ge (dN adj n u y) k with g | g
    · exact absurd ⟨y, hy, d1, g, hyv1, by omega⟩ (hmin k (by omega))
    · omega
  have hnear := dN_near hw hu (p := y) (q := z) (by omega) a1'
  -- back from v
  have hback : dN adj n u z ≤ dN A n u v - k := by
    have b1 := hgv z e3
    have b2 := dN_tri hw hu (b := v) (c := z) (by omega) (by rw [dN_sym hw]; omega)
    rw [dN_sym hw v z] at b2
    omega
  refine ⟨y, hy, ?_⟩
  have hk1 : 1 ≤ k := by
    rcases Nat.lt_or_ge 0 k with g | g
    · exact g
    · exfalso
      have : dN adj n u z = 0 := by omega
      have := dN_zero.mp this
      subst this
      rw [dN_self] at e1
      omega
  unfold rsN
  rw [dy, if_pos ⟨hk1, by omega⟩]
  by_cases c2 : 1 < bsN adj n u y (k - 1)
  · rw [if_pos c2]; omega
  · rw [if_neg c2]
    have hzk : dN adj n u z = k := by
      rcases Nat.lt_or_ge (dN adj n u z) k with g | g
      · exfalso
        obtain ⟨x, hx, d2, a2⟩ := dN_pred (adj := A) (n := n) (p := u) (q := y) (k := k - 1) (by omega) (by omega)
        have a2' : adj x y = true := by rw [hA] at a2; exact (setA_f.mp a2).1
        have g2 := hge x (by omega)
        have g3 := dN_near hw hu (p := x) (q := y) (by omega) a2'
        refine c2 (bsN_two.mpr ⟨x, z, hx, hz, fun e => by rw [e] at d2; omega, ⟨by rw [hw.2.1]; exact a2', by omega⟩, a1', by omega⟩)
      · omega
    rw [if_pos (bsN_pos.mpr ⟨z, hz, a1', hzk⟩)]
    omega
/-! least of all -/
def mnO (S : Nat → Prop) (r : Nat) : Prop := (r = 0 ∧ ∀ g, S g → g = 0) ∨ (0 < r ∧ S r ∧ ∀ g, S g → 0 < g → r ≤ g)
theorem mnO_one {S T : Nat → Prop} {r t : Nat} (h1 : mnO S r) (h2 : mnO T t) (hA : ∀ g, S g → 0 < g → ∃ k, T k ∧ 0 < k ∧ k ≤ g) (hB : ∀ g, T g → 0 < g → ∃ k, S k ∧ 0 < k ∧ k ≤ g) : r = t := by
  rcases h1 with ⟨rfl, h1⟩ | ⟨h1, h3, h4⟩
  · rcases h2 with ⟨rfl, h2⟩ | ⟨h2, h5, h6⟩
    · rfl
    · obtain ⟨k, a, b, _⟩ := hB t h5 h2
      have := h1 k a
      omega
  · obtain ⟨k, a, b, c⟩ := hA r h3 h1
    rcases h2 with ⟨rfl, h2⟩ | ⟨h2, h5, h6⟩
    · have := h2 k a; omega
    · obtain ⟨k2, a2, b2, c2⟩ := hB t h5 h2
      have := h4 k2 a2 b2
      have := h6 k a b
      omega
def rsS (adj : Nat → Nat → Bool) (n p q g : Nat) : Prop := ∃ p2 q2, bef p2 q2 p q ∧ p2 < n ∧ q2 < n ∧ rsN adj n p2 q2 = g
def rgS (adj : Nat → Nat → Bool) (n p q g : Nat) : Prop := ∃ u v, (u < p ∨ (u = p ∧ v < q)) ∧ v < u ∧ u < n ∧ adj u v = true ∧ rg adj n u v < 33 ∧ rg adj n u v + 1 = g
theorem mnO_ext {S T : Nat → Prop} {r : Nat} (h : mnO S r) (e : ∀ g, S g ↔ T g) : mnO T r := by
  have : S = T := funext fun g => propext (e g)
  rw [← this]; exact h
theorem rsN_le (adj : Nat → Nat → Bool) (n p q : Nat) : rsN adj n p q ≤ 65 := by
  unfold rsN
  by_cases c : 1 ≤ dN adj n p q ∧ dN adj n p q < 33
  · rw [if_pos c]
    by_cases c2 : 1 < bsN adj n p q (dN adj n p q - 1)
    · rw [if_pos c2]; omega
    · rw [if_neg c2]
      by_cases c3 : 0 < bsN adj n p q (dN adj n p q)
      · rw [if_pos c3]; omega
      · rw [if_neg c3]; omega
  · rw [if_neg c]; omega
theorem rsN_lt {adj : Nat → Nat → Bool} {n p q : Nat} : rsN adj n p q < 66 := by
  have := rsN_le adj n p q; omega
theorem rsS_next {adj : Nat → Nat → Bool} {n p q g : Nat} (hp : p < n) (hq : q < n) : rsS adj n p (q + 1) g ↔ rsS adj n p q g ∨ rsN adj n p q = g := by
  constructor
  · rintro ⟨p2, q2, hb, h3, h4, e⟩
    by_cases c : p2 = p ∧ q2 = q
    · obtain ⟨rfl, rfl⟩ := c; exact Or.inr e
    · exact Or.inl ⟨p2, q2, by unfold bef at *; omega, h3, h4, e⟩
  · rintro (⟨p2, q2, hb, h3, h4, e⟩ | e)
    · exact ⟨p2, q2, by unfold bef at *; omega, h3, h4, e⟩
    · exact ⟨p, q, by unfold bef; omega, hp, hq, e⟩
theorem rsS_line {adj : Nat → Nat → Bool} {n p g : Nat} : rsS adj n p n g ↔ rsS adj n (p + 1) 0 g := by
  constructor
  · rintro ⟨p2, q2, hb, h3, h4, e⟩; exact ⟨p2, q2, by unfold bef at *; omega, h3, h4, e⟩
  · rintro ⟨p2, q2, hb, h3, h4, e⟩; exact ⟨p2, q2, by unfold bef at *; omega, h3, h4, e⟩
theorem Wy_ringSeen_s {n p q : Nat} {near ly re st : Nat → Int32} {f sz wh : Int32} {adj : Nat → Nat → Bool} (hw : WF n adj) (hb : Lb near adj) (hl : LW adj n f sz wh ly re st) (hp : p < n) (hq : q < n) : Wy_ringSeen (nI p) (nI q) ly near st = some (nI (rsN adj n p q)) := by
  have hn := hw.1
  unfold Wy_ringSeen Wy_ringSeen_n71
  apply ok_eq
  refine ok_e (Wy_between_s (by omega) (by omega) _) ?_
  rw [hl.2.2.1 p hp q (by omega)]
  unfold rsN
  by_cases g : dN adj n p q < 33
  rotate_left
  · rw [if_neg g, if_neg (show ¬ (1 ≤ dN adj n p q ∧ dN adj n p q < 33) from fun h => g h.2)]
    exact ok_f (by decide) (ok_s rfl)
  rw [if_pos g]
  refine ok_i (fun c => ?_) (fun c => ok_s ?_)
  rotate_left
  · rw [if_neg (fun h => c ((nI_leI (a := 1) (by decide) (by omega)).mpr h.1))]; rfl
  have c : 1 ≤ dN adj n p q := (nI_leI (a := 1) (by decide) (by omega)).mp c
  have hbd := dN_bound hw hp g
  rw [if_pos ⟨c, g⟩, cl_nI (by omega), show nI (dN adj n p q) - 1 = nI (dN adj n p q - 1) from pk_sub (b := 1) (by omega)]
  refine ok_g (inb_nI (by omega) (by omega)) (ok_b (Wy_postsAt_s hw hp (by omega) (hl.2.1 p hp)) (fun m1 h1 => ok_e (JI_bitCount_s _) ?_))
  rw [bes_cnt hw hb hq h1 (by omega)]
  have hle := bsN_le adj n p q (dN adj n p q - 1)
  refine ok_i (fun c2 => ?_) (fun c2 => ok_s ?_)
  · have c2 : ¬ 1 < bsN adj n p q (dN adj n p q - 1) := by
      have := (nI_leI (b := 1) (by omega) (by decide)).mp c2; omega
    rw [if_neg c2]
    refine ok_b (Wy_postsAt_s hw hp (by omega) (hl.2.1 p hp)) (fun m2 h2 => ok_i (fun c3 => ok_s ?_) (fun c3 => ok_s ?_))
    · rw [if_neg]; rfl
      intro hpos
      obtain ⟨x, hx, a1, d1⟩ := bsN_pos.mp hpos
      exact and0.mp c3 x (by omega) ⟨by rw [hb q (by omega) x (by omega)]; exact a1, (h2 x (by omega)).mpr ⟨d1, by omega⟩⟩
    · rw [if_pos]
      · rw [show (2 : Int32) = nI 2 from rfl, pk_mul, nI_1]
      · apply Classical.byContradiction
        intro hno
        refine c3 (and0.mpr (fun x hx gg => hno (bsN_pos.mpr ⟨x, ?_, ?_, ?_⟩)))
        · rw [hb q (by omega) x hx] at gg; exact (hw.2.2.2 q x gg.1).2
        · rw [hb q (by omega) x hx] at gg; exact gg.1
        · exact ((h2 x hx).mp gg.2).1
  · have c2 : 1 < bsN adj n p q (dN adj n p q - 1) := by
      apply Classical.byContradiction
      intro hno
      exact c2 ((nI_leI (b := 1) (by omega) (by decide)).mpr (by omega))
    rw [if_pos c2, show (2 : Int32) = nI 2 from rfl, pk_mul]
theorem Wy_shortestRing_s {n : Nat} {near ly re st : Nat → Int32} {f sz wh : Int32} {adj : Nat → Nat → Bool} (hw : WF n adj) (hb : Lb near adj) (hl : LW adj n f sz wh ly re st) : Ok (Wy_shortestRing (nI n) ly near st) (fun z => ∃ r, z = nI r ∧ r < 66 ∧ mnO (rsS adj n n 0) r) := by
  have hn := hw.1
  unfold Wy_shortestRing
  refine fr2 (fun F a b => Wy_shortestRing_l4 (nI n) ly near st F a b) (fun p a b => b = nI p ∧ ∃ r, a = nI r ∧ r < 66 ∧ mnO (rsS adj n p 0) r) n (fuel_big (by omega)) ?_ ?_ 0 (Nat.zero_le _) 0 0 ⟨rfl, 0, rfl, by omega, Or.inl ⟨rfl, fun g ⟨p2, q2, hb2, _⟩ => by unfold bef at hb2; omega⟩⟩
  · rintro p hp a b ⟨rfl, r, rfl, hr, h1⟩ F ih
    rw [Wy_shortestRing_l4_s]
    unfold Wy_shortestRing_n4
    refine ok_f (nI_ge hp (by omega)) ?_
    refine fr2 (fun F a b => Wy_shortestRing_l15 _ (nI n) ly near st F a (nI p) b) (fun q a b => b = nI q ∧ ∃ r, a = nI r ∧ r < 66 ∧ mnO (rsS adj n p q) r) n (fuel_big (by omega)) ?_ ?_ 0 (Nat.zero_le _) (nI r) 0 ⟨rfl, r, rfl, hr, h1⟩
    · rintro q hq a b ⟨rfl, r, rfl, hr, h2⟩ F2 ih2
      rw [Wy_shortestRing_l15_s]
      unfold Wy_shortestRing_n15 Wy_shortestRing_n52 Wy_shortestRing_n49 Wy_shortestRing_n52
      refine ok_f (nI_ge hq (by omega)) (ok_e (Wy_ringSeen_s hw hb hl hp hq) ?_)
      have hle := rsN_lt (adj := adj) (n := n) (p := p) (q := q)
      refine ok_i (fun c => ih2 _ _ ⟨nI_1 q, r, rfl, hr, ?_⟩) (fun c => ok_i (fun c2 => ih2 _ _ ⟨nI_1 q, _, rfl, hle, ?_⟩) (fun c2 => ok_i (fun c3 => ih2 _ _ ⟨nI_1 q, r, rfl, hr, ?_⟩) (fun c3 => ih2 _ _ ⟨nI_1 q, _, rfl, hle, ?_⟩)))
      · have c : rsN adj n p q = 0 := Nat.le_zero.mp ((nI_leI (b := 0) (by omega) (by decide)).mp c)
        rcases h2 with ⟨h0, h2⟩ | ⟨h0, h2, h3⟩
        · refine Or.inl ⟨h0, fun g hg => ?_⟩
          rcases (rsS_next hp hq).mp hg with h | h
          · exact h2 g h
          · omega
        · refine Or.inr ⟨h0, (rsS_next hp hq).mpr (Or.inl h2), fun g hg hg0 => ?_⟩
          rcases (rsS_next hp hq).mp hg with h | h
          · exact h3 g h hg0
          · omega
      · have c : 0 < rsN adj n p q := Nat.lt_of_not_le (fun h => c ((nI_leI (b := 0) (by omega) (by decide)).mpr h))
        have c2 : r = 0 := (nI_eq (b := 0) (by omega) (by decide)).mp c2
        refine Or.inr ⟨c, (rsS_next hp hq).mpr (Or.inr rfl), fun g hg hg0 => ?_⟩
        rcases h2 with ⟨h0, h2⟩ | ⟨h0, h2, h3⟩
        · rcases (rsS_next hp hq).mp hg with h | h
          · have := h2 g h; omega
          · omega
        · omega
      · have c2 : r ≠ 0 := fun e => c2 ((nI_eq (b := 0) (by omega) (by decide)).mpr e)
        have c3 : r ≤ rsN adj n p q := (nI_leI (by omega) (by omega)).mp c3
        rcases h2 with ⟨h0, h2⟩ | ⟨h0, h2, h3⟩
        · omega
        · refine Or.inr ⟨h0, (rsS_next hp hq).mpr (Or.inl h2), fun g hg hg0 => ?_⟩
          rcases (rsS_next hp hq).mp hg with h | h
          · exact h3 g h hg0
          · omega
      · have c : 0 < rsN adj n p q := Nat.lt_of_not_le (fun h => c ((nI_leI (b := 0) (by omega) (by decide)).mpr h))
        have c2 : r ≠ 0 := fun e => c2 ((nI_eq (b := 0) (by omega) (by decide)).mpr e)
        have c3 : ¬ r ≤ rsN adj n p q := fun h => c3 ((nI_leI (by omega) (by omega)).mpr h)
        rcases h2 with ⟨h0, h2⟩ | ⟨h0, h2, h3⟩
        · omega
        · refine Or.inr ⟨c, (rsS_next hp hq).mpr (Or.inr rfl), fun g hg hg0 => ?_⟩
          rcases (rsS_next hp hq).mp hg with h | h
          · have := h3 g h hg0; omega
          · omega
    · rintro a b ⟨rfl, r, rfl, hr, h2⟩ F2
      rw [Wy_shortestRing_l15_s]
      unfold Wy_shortestRing_n15 Wy_shortestRing_n58
      exact ok_t (nI_le (Nat.le_refl n) (by omega)) (ih _ _ ⟨nI_1 p, r, rfl, hr, mnO_ext h2 (fun g => rsS_line)⟩)
  · rintro a b ⟨rfl, r, rfl, hr, h1⟩ F
    rw [Wy_shortestRing_l4_s]
    unfold Wy_shortestRing_n4 Wy_shortestRing_n64
    exact ok_t (nI_le (Nat.le_refl n) (by omega)) (ok_s ⟨r, rfl, hr, h1⟩)
/-- the model's least, 99 being none -/
def mn9 (S : Nat → Prop) (r : Nat) : Prop := r ≤ 99 ∧ (∀ g, S g → r ≤ g) ∧ (r = 99 ∨ S r)
theorem rgS_next {adj : Nat → Nat → Bool} {n p q g : Nat} (hp : p < n) (hq : q < p) : rgS adj n p (q + 1) g ↔ rgS adj n p q g ∨ (adj p q = true ∧ rg adj n p q < 33 ∧ rg adj n p q + 1 = g) := by
  constructor
  · rintro ⟨u, v, hb, h3, h4, h5, h6⟩
    by_cases c : u = p ∧ v = q
    · obtain ⟨rfl, rfl⟩ := c; exact Or.inr ⟨h5, h6⟩
    · exact Or.inl ⟨u, v, by omega, h3, h4, h5, h6⟩
  · rintro (⟨u, v, hb, h3, h4, h5, h6⟩ | ⟨h5, h6⟩)
    · exact ⟨u, v, by omega, h3, h4, h5, h6⟩
    · exact ⟨p, q, by omega, hq, hp, h5, h6⟩
theorem rgS_line {adj : Nat → Nat → Bool} {n p g : Nat} : rgS adj n p p g ↔ rgS adj n (p + 1) 0 g := by
  constructor
  · rintro ⟨u, v, hb, h3, h4, h5, h6⟩; exact ⟨u, v, by omega, h3, h4, h5, h6⟩
  · rintro ⟨u, v, hb, h3, h4, h5, h6⟩; exact ⟨u, v, by omega, h3, h4, h5, h6⟩
theorem mn9_ext {S T : Nat → Prop} {r : Nat} (h : mn9 S r) (e : ∀ g, S g ↔ T g) : mn9 T r := by
  have : S = T := funext fun g => propext (e g)
  rw [← this]; exact h
theorem M_round_s {n : Nat} {road l0 : Nat → Int32} {adj : Nat → Nat → Bool} (hw : WF n adj) (hb : Mb road adj) : Ok (M_round (nI n) l0 road) (fun z => ∃ r, z.1 = nI r ∧ r < 66 ∧ mnO (rgS adj n n 0) r) := by
  have hn := hw.1
  unfold M_round
  refine fr3 (fun F a b l => M_round_l5 (nI n) road F a b l) (fun p a b l => b = nI p ∧ ∃ r, a = nI r ∧ mn9 (rgS adj n p 0) r) n (fuel_big (by omega)) ?_ ?_ 0 (Nat.zero_le _) 99 0 l0 ⟨rfl, 99, rfl, by omega, fun g ⟨u, v, hb2, _⟩ => by omega, Or.inl rfl⟩
  · rintro p hp a b l ⟨rfl, r, rfl, h1⟩ F ih
    rw [M_round_l5_s]
    unfold M_round_n5
    refine ok_f (nI_ge hp (by omega)) ?_
    refine fr3 (fun F a b l => M_round_l15 _ (nI n) road F a (nI p) b l) (fun q a b l => b = nI q ∧ ∃ r, a = nI r ∧ mn9 (rgS adj n p q) r) p (fuel_big (by omega)) ?_ ?_ 0 (Nat.zero_le _) (nI r) 0 l ⟨rfl, r, rfl, h1⟩
    · rintro q hq a b l ⟨rfl, r, rfl, h2⟩ F2 ih2
      rw [M_round_l15_s]
      unfold M_round_n15 M_round_n58 M_round_n59
      rw [i32]
      refine ok_f (nI_ge hq (by omega)) (ok_g (inb_nI (by omega) (by omega)) ?_)
      rw [cl_nI (by omega), hb p (by omega) q (by omega)]
      have hr := h2.1
      cases ha : adj p q
      · refine ok_t (by decide) (ih2 _ _ _ ⟨nI_1 q, r, rfl, mn9_ext h2 (fun g => ?_)⟩)
        rw [rgS_next hp hq, ha]
        exact ⟨Or.inl, fun h => h.elim id (fun h => by cases h.1)⟩
      · refine ok_f (by decide) (ok_b (M_wayRound_s hw hb hp (by omega) (by omega)) (fun z hz => ?_))
        have hz : z.1 = wy (rg adj n p q) := hz
        have hv := wv_le (rg adj n p q)
        rw [hz, wy_wv, nI_1]
        have hcase : wv (rg adj n p q) + 1 = (if rg adj n p q < 33 then rg adj n p q + 1 else 100) := by
          unfold wv
          by_cases c : rg adj n p q < 33
          · rw [if_pos c, if_pos c]
          · rw [if_neg c, if_neg c]
        refine ok_i (fun c => ih2 _ _ _ ⟨nI_1 q, r, rfl, hr, fun g hg => ?_, ?_⟩) (fun c => ih2 _ _ _ ⟨nI_1 q, _, rfl, ?_, fun g hg => ?_, ?_⟩)
        · have c := (nI_leI (by omega) (by omega)).mp c
          rcases (rgS_next hp hq).mp hg with h | h
          · exact h2.2.1 g h
          · rw [hcase, if_pos h.2.1] at c; omega
        · rcases h2.2.2 with h | h
          · exact Or.inl h
          · exact Or.inr ((rgS_next hp hq).mpr (Or.inl h))
        · have c : ¬ r ≤ wv (rg adj n p q) + 1 := fun h => c ((nI_leI (by omega) (by omega)).mpr h)
          omega
        · have c : ¬ r ≤ wv (rg adj n p q) + 1 := fun h => c ((nI_leI (by omega) (by omega)).mpr h)
          rcases (rgS_next hp hq).mp hg with h | h
          · have := h2.2.1 g h; omega
          · rw [hcase, if_pos h.2.1]; omega
        · have c : ¬ r ≤ wv (rg adj n p q) + 1 := fun h => c ((nI_leI (by omega) (by omega)).mpr h)
          refine Or.inr ((rgS_next hp hq).mpr (Or.inr ⟨ha, ?_⟩))
          by_cases d : rg adj n p q < 33
          · exact ⟨d, by rw [hcase, if_pos d]⟩
          · rw [hcase, if_neg d] at c; omega
    · rintro a b l ⟨rfl, r, rfl, h2⟩ F2
      rw [M_round_l15_s]
      unfold M_round_n15 M_round_n65
      exact ok_t (nI_le (Nat.le_refl p) (by omega)) (ih _ _ _ ⟨nI_1 p, r, rfl, mn9_ext h2 (fun g => rgS_line)⟩)
  · rintro a b l ⟨rfl, r, rfl, h1⟩ F
    rw [M_round_l5_s]
    unfold M_round_n5 M_round_n71 M_round_n82
    have hr := h1.1
    have small : ∀ g, rgS adj n n 0 g → g < 66 ∧ 0 < g := fun g ⟨u, v, _, _, _, _, h5, h6⟩ => by omega
    refine ok_t (nI_le (Nat.le_refl n) (by omega)) (ok_i (fun c => ok_s ⟨0, rfl, by omega, Or.inl ⟨rfl, fun g hg => ?_⟩⟩) (fun c => ?_))
    · have c : r = 99 := (nI_eq (b := 99) (by omega) (by decide)).mp c
      have := h1.2.1 g hg
      have := small g hg
      omega
    · have c : r ≠ 99 := fun e => c ((nI_eq (b := 99) (by omega) (by decide)).mpr e)
      have hs : rgS adj n n 0 r := h1.2.2.resolve_left c
      exact ok_s ⟨r, rfl, (small r hs).1, Or.inr ⟨(small r hs).2, hs, fun g hg _ => h1.2.1 g hg⟩⟩
theorem round_one {adj : Nat → Nat → Bool} {n r t : Nat} (hw : WF n adj) (h1 : mnO (rsS adj n n 0) r) (h2 : mnO (rgS adj n n 0) t) : r = t := by
  refine mnO_one h1 h2 ?_ ?_
  · rintro g ⟨p, q, _, hp, hq, e⟩ h0
    obtain ⟨u, v, h3, h4, h5, h6, h7⟩ := ring_A hw hp hq (by omega)
    exact ⟨_, ⟨u, v, Or.inl h4, h3, h4, h5, h6, rfl⟩, by omega, by omega⟩
  · rintro g ⟨u, v, _, h3, h4, h5, h6, h7⟩ h0
    obtain ⟨q, hq, a, b⟩ := ring_B hw h4 (by omega) h5 h6
    exact ⟨_, ⟨u, q, Or.inl h4, h4, hq, rfl⟩, a, by omega⟩
