/-! the class's parting -/
theorem fE_gap {n p : Nat} {E : Nat → Nat → Prop} (hn : n ≤ 32) : fb_ct (fsE n E) (32 * (p + 1)) = fb_ct (fsE n E) (32 * p + n) := ct_gap (by omega) (fun j h1 h2 => by
  refine Bool.eq_false_iff.mpr (fun h => ?_)
  have := (fsE_t.mp h).1
  unfold vd at this
  omega)
theorem fE_end {n : Nat} {E : Nat → Nat → Prop} (hn : n ≤ 32) : cnE n E = fb_ct (fsE n E) (32 * n) := ct_gap (by omega) (fun j h1 h2 => by
  refine Bool.eq_false_iff.mpr (fun h => ?_)
  have := (fsE_t.mp h).1
  unfold vd at this
  omega)
theorem Pr_refine_s {n : Nat} {cl : Bool} {c0 : Int32} {fi he ke ne oke pa s : Nat → Int32} {su : Nat → Int64} (hn : n ≤ 32) (hs : okS n s) : Ok (Pr_refine (bI cl) c0 (nI n) fi he ke ne oke pa s su) (fun z => ∃ c, z.1 = nI c ∧ can n z.2.2.2.2.2.2.2.1 c (Ec cl s n)) := by
  have hE := Ec_E cl s n
  unfold Pr_refine
  refine ok_e (JA_fillI_s (by decide) _ _) ?_
  refine fr9 (fun F x c fi he ke ne oke pa su => Pr_refine_l15 (nI n) F (bI cl) x c fi he ke ne oke pa s su) (fun p x c fi he ke ne oke pa su => x = nI p ∧ c = nI (fb_ct (fsE n (Ec cl s n)) (32 * p)) ∧ RS n s (Ec cl s n) (fb_ct (fsE n (Ec cl s n)) (32 * p)) fi he ne su ∧ ∀ b, vd n b → b < 32 * p → pa b = nI (nmE n (Ec cl s n) b)) n (fuel_big (by omega)) ?_ ?_ 0 (Nat.zero_le _) 0 0 fi _ ke ne oke pa su ⟨rfl, rfl, ⟨all_none, fun v hv => by rw [fa_fill_in hv]; rfl⟩, fun b _ h => by omega⟩
  · rintro p hp x c fi he ke ne oke pa su ⟨rfl, rfl, h1, h2⟩ F ih
    rw [Pr_refine_l15_s]
    unfold Pr_refine_n15
    refine ok_f (nI_ge hp (by omega)) ?_
    refine fr9 (fun F x c fi he ke ne oke pa su => Pr_refine_l25 _ (nI n) F (bI cl) (nI p) x c fi he ke ne oke pa s su) (fun q x c fi he ke ne oke pa su => x = nI q ∧ c = nI (fb_ct (fsE n (Ec cl s n)) (32 * p + q)) ∧ RS n s (Ec cl s n) (fb_ct (fsE n (Ec cl s n)) (32 * p + q)) fi he ne su ∧ ∀ b, vd n b → b < 32 * p + q → pa b = nI (nmE n (Ec cl s n) b)) n (fuel_big (by omega)) ?_ ?_ 0 (Nat.zero_le _) 0 _ fi he ke ne oke pa su ⟨rfl, rfl, h1, h2⟩
    · rintro q hq x c fi he ke ne oke pa su ⟨rfl, rfl, h3, h4⟩ F2 ih2
      have ha := vd_at hn hp hq
      have hcle := fb_ct_le (fsE n (Ec cl s n)) (32 * p + q)
      obtain ⟨v, hv, ev⟩ := hs _ ha
      rw [Pr_refine_l25_s]
      unfold Pr_refine_n25 Pr_refine_n84
      rw [i32', cl_nI (by omega)]
      refine ok_f (nI_ge hq (by omega)) (ok_e (Pr_sumOf_s hn hp hq) (ok_b (Pr_match_s hn ha hs (Nat.le_refl _) h3) (fun z hz => ?_)))
      have put : ∀ (pa : Nat → Int32), (∀ b, vd n b → b < 32 * p + q → pa b = nI (nmE n (Ec cl s n) b)) → ∀ b, vd n b → b < 32 * p + (q + 1) → upd pa (32 * p + q) (nI (nmE n (Ec cl s n) (32 * p + q))) b = nI (nmE n (Ec cl s n) b) := by
        intro pa h b hb hlt
        by_cases e : b = 32 * p + q
        · rw [e, updS]
        · rw [updN e]; exact h b hb (by omega)
      rcases hz with ⟨k, k1, k2, k3⟩ | ⟨k1, k2⟩
      · rw [k3]
        have ek := (kE_match hE ha k1).mp k2
        have hf := kE_old hE ha (by rw [← ek]; exact k1)
        refine ok_t (nI_pos' (by omega)) (ok_g (inb_nI (by omega) (by omega)) (ih2 _ _ _ _ _ _ _ _ _ ⟨nI_1 q, ?_, ?_, ?_⟩))
        · rw [← Nat.add_assoc, fb_ct_succ, hf]; rfl
        · rw [← Nat.add_assoc, fb_ct_succ, hf]; exact h3
        · rw [ek]; exact put _ h4
      · rw [k2]
        have hno : ¬ nmE n (Ec cl s n) (32 * p + q) < fb_ct (fsE n (Ec cl s n)) (32 * p + q) := fun h => k1 _ h ((kE_match hE ha h).mpr rfl)
        obtain ⟨hf, hm⟩ := kE_new hE ha hno
        unfold Pr_open
        rw [cl_nI (by omega), cl_nI (by omega), ev, cl_nI (by omega)]
        refine ok_f (by decide) (ok_e (by rw [gd_t (inb_nI (by omega) (by omega)), gd_t (inb_nI (by omega) (by omega)), gd_t (inb_nI (by omega) (by omega))]) (ok_g (inb_nI (by omega) (by omega)) (ih2 _ _ _ _ _ _ _ _ _ ⟨nI_1 q, ?_, ?_, ?_⟩)))
        · show nI (fb_ct (fsE n (Ec cl s n)) (32 * p + q)) + 1 = _
          rw [nI_1, ← Nat.add_assoc, fb_ct_succ, hf]; rfl
        · rw [← Nat.add_assoc, fb_ct_succ, hf]
          exact RS_open ha hf hv ev h3
        · show ∀ b, vd n b → b < 32 * p + (q + 1) → upd pa (32 * p + q) (nI (fb_ct (fsE n (Ec cl s n)) (32 * p + q))) b = nI (nmE n (Ec cl s n) b)
          rw [← hm]; exact put _ h4
    · rintro x c fi he ke ne oke pa su ⟨rfl, rfl, h3, h4⟩ F2
      rw [Pr_refine_l25_s]
      unfold Pr_refine_n25 Pr_refine_n91
      refine ok_t (nI_le (Nat.le_refl n) (by omega)) (ih _ _ _ _ _ _ _ _ _ ⟨nI_1 p, ?_, ?_, fun b hb hlt => h4 b hb ?_⟩)
      · rw [fE_gap hn]
      · rw [fE_gap hn]; exact h3
      · unfold vd at hb; omega
  · rintro x c fi he ke ne oke pa su ⟨rfl, rfl, h1, h2⟩ F
    rw [Pr_refine_l15_s]
    unfold Pr_refine_n15 Pr_refine_n97
    refine ok_t (nI_le (Nat.le_refl n) (by omega)) (ok_s ⟨_, rfl, hE, fun a ha => ?_, (fE_end hn).symm⟩)
    show va_cpy pa s 0 0 1024 a = _
    have h3 := ha.1
    rw [pk_cpy_in (Nat.zero_le a) (by omega), Nat.zero_add, Nat.sub_zero]
    exact h2 a ha (by unfold vd at ha; omega)
/-! the first parting -/
def ty (adj : Nat → Nat → Bool) (a : Nat) : Nat := if a / 32 = a % 32 then 0 else if adj (a / 32) (a % 32) = true then 1 else 2
theorem ty_E0 {adj : Nat → Nat → Bool} {a b : Nat} : E0 adj a b ↔ ty adj a = ty adj b := by
  unfold E0 ty
  by_cases c1 : a / 32 = a % 32
  · rw [if_pos c1]
    by_cases c2 : b / 32 = b % 32
    · rw [if_pos c2]; exact ⟨fun _ => rfl, fun _ => ⟨⟨fun _ => c2, fun _ => c1⟩, fun h => absurd c1 h⟩⟩
    · rw [if_neg c2]
      refine ⟨fun h => absurd (h.1.mp c1) c2, fun h => ?_⟩
      cases hv : adj (b / 32) (b % 32)
      · rw [hv, if_neg (by decide)] at h; cases h
      · rw [hv, if_pos rfl] at h; cases h
  · rw [if_neg c1]
    by_cases c2 : b / 32 = b % 32
    · rw [if_pos c2]
      refine ⟨fun h => absurd (h.1.mpr c2) c1, fun h => ?_⟩
      cases hv : adj (a / 32) (a % 32)
      · rw [hv, if_neg (by decide)] at h; cases h
      · rw [hv, if_pos rfl] at h; cases h
    · rw [if_neg c2]
      constructor
      · intro h; rw [h.2 c1]
      · intro h
        refine ⟨⟨fun e => absurd e c1, fun e => absurd e c2⟩, fun _ => ?_⟩
        cases hv : adj (a / 32) (a % 32)
        · cases hv2 : adj (b / 32) (b % 32)
          · rfl
          · rw [hv, hv2, if_neg (by decide), if_pos rfl] at h; cases h
        · cases hv2 : adj (b / 32) (b % 32)
          · rw [hv, hv2, if_pos rfl, if_neg (by decide)] at h; cases h
          · rfl
def RG (adj : Nat → Nat → Bool) (n t a : Nat) (r : Int32) : Prop := (∃ b, vd n b ∧ b < a ∧ ty adj b = t ∧ r = nI (nmE n (E0 adj) b)) ∨ ((∀ b, vd n b → b < a → ty adj b ≠ t) ∧ r = -1)
theorem RG_next {adj : Nat → Nat → Bool} {n t a : Nat} {r : Int32} (h : RG adj n t a r) (hne : ty adj a ≠ t) : RG adj n t (a + 1) r := by
  rcases h with ⟨b, h1, h2, h3, h4⟩ | ⟨h1, h2⟩
  · exact Or.inl ⟨b, h1, by omega, h3, h4⟩
  · refine Or.inr ⟨fun b hb hlt => ?_, h2⟩
    by_cases e : b = a
    · rw [e]; exact hne
    · exact h1 b hb (by omega)
theorem RG_gap {adj : Nat → Nat → Bool} {n t a a2 : Nat} {r : Int32} (h : RG adj n t a r) (h2 : a ≤ a2) (h3 : ∀ b, vd n b → b < a2 → b < a) : RG adj n t a2 r := by
  rcases h with ⟨b, g1, g2, g3, g4⟩ | ⟨g1, g2⟩
  · exact Or.inl ⟨b, g1, by omega, g3, g4⟩
  · exact Or.inr ⟨fun b hb hlt => g1 b hb (h3 b hb hlt), g2⟩
/-- the register of the pair's own sort: its number, or a new one -/
theorem RG_own {adj : Nat → Nat → Bool} {n a : Nat} {r : Int32} (ha : vd n a) (h : RG adj n (ty adj a) a r) : (0 ≤ r → r = nI (nmE n (E0 adj) a) ∧ fsE n (E0 adj) a = false) ∧ (¬ 0 ≤ r → fsE n (E0 adj) a = true ∧ nmE n (E0 adj) a = fb_ct (fsE n (E0 adj)) a) := by
  have hE := E0_E adj n
  rcases h with ⟨b, h1, h2, h3, h4⟩ | ⟨h1, h2⟩
  · have hnb : nmE n (E0 adj) b = nmE n (E0 adj) a := (nE_eq hE h1 ha).mpr (ty_E0.mpr h3)
    have hlt := Nat.lt_of_lt_of_le (nE_lt hE h1) cnE_le
    refine ⟨fun _ => ⟨by rw [h4, hnb], kE_old hE ha ?_⟩, fun hn => absurd (by rw [h4]; exact nI_pos' (by omega)) hn⟩
    rw [← hnb]
    have l1 := lE_le hE h1
    exact ct_lt (by omega) (fE_lo hE h1)
  · refine ⟨fun h => by rw [h2] at h; exact absurd h (by decide), fun _ => kE_new hE ha (fun hlt => ?_)⟩
    obtain ⟨g1, g2⟩ := lE_is hE ha
    have l1 := lE_le hE ha
    have hne : loE n (E0 adj) a ≠ a := fun e => by
      unfold nmE at hlt
      rw [e] at hlt
      omega
    exact h1 _ g1 (by omega) (ty_E0.mp g2).symm
theorem Pr_begin_s {n : Nat} {c0 : Int32} {nn s : Nat → Int32} {adj : Nat → Nat → Bool} (hw : WF n adj) (hb : Lb nn adj) : Ok (Pr_begin c0 (nI n) (nI n) nn s) (fun z => ∃ c, z.1 = nI c ∧ can n z.2 c (E0 adj)) := by
  have hn := hw.1
  have hE := E0_E adj n
  unfold Pr_begin
  refine fr6 (fun F r0 r1 r2 x c s => Pr_begin_l15 (nI n) (nI n) nn F r0 r1 r2 x c s) (fun p r0 r1 r2 x c s => x = nI p ∧ c = nI (fb_ct (fsE n (E0 adj)) (32 * p)) ∧ RG adj n 0 (32 * p) r0 ∧ RG adj n 1 (32 * p) r1 ∧ RG adj n 2 (32 * p) r2 ∧ ∀ b, vd n b → b < 32 * p → s b = nI (nmE n (E0 adj) b)) n (fuel_big (by omega)) ?_ ?_ 0 (Nat.zero_le _) (-1) (-1) (-1) 0 0 s ⟨rfl, rfl, Or.inr ⟨fun b _ h => by omega, rfl⟩, Or.inr ⟨fun b _ h => by omega, rfl⟩, Or.inr ⟨fun b _ h => by omega, rfl⟩, fun b _ h => by omega⟩
  · rintro p hp r0 r1 r2 x c s ⟨rfl, rfl, g0, g1, g2, h2⟩ F ih
    rw [Pr_begin_l15_s]
    unfold Pr_begin_n15
    refine ok_f (nI_ge hp (by omega)) ?_
    refine fr6 (fun F r0 r1 r2 x c s => Pr_begin_l27 _ (nI n) (nI n) nn F r0 r1 r2 (nI p) x c s) (fun q r0 r1 r2 x c s => x = nI q ∧ c = nI (fb_ct (fsE n (E0 adj)) (32 * p + q)) ∧ RG adj n 0 (32 * p + q) r0 ∧ RG adj n 1 (32 * p + q) r1 ∧ RG adj n 2 (32 * p + q) r2 ∧ ∀ b, vd n b → b < 32 * p + q → s b = nI (nmE n (E0 adj) b)) n (fuel_big (by omega)) ?_ ?_ 0 (Nat.zero_le _) r0 r1 r2 0 _ s ⟨rfl, rfl, g0, g1, g2, h2⟩
    · rintro q hq r0 r1 r2 x c s ⟨rfl, rfl, g0, g1, g2, h4⟩ F2 ih2
      have ha := vd_at hn hp hq
      have hcle := fb_ct_le (fsE n (E0 adj)) (32 * p + q)
      have hnm := Nat.lt_of_lt_of_le (nE_lt hE ha) cnE_le
      have put : ∀ b, vd n b → b < 32 * p + (q + 1) → upd s (32 * p + q) (nI (nmE n (E0 adj) (32 * p + q))) b = nI (nmE n (E0 adj) b) := by
        intro b hb hlt
        by_cases e : b = 32 * p + q
        · rw [e, updS]
        · rw [updN e]; exact h4 b hb (by omega)
      have self : ∀ t, ty adj (32 * p + q) = t → RG adj n t (32 * p + (q + 1)) (nI (nmE n (E0 adj) (32 * p + q))) := fun t ht => Or.inl ⟨_, ha, by omega, ht, rfl⟩
      have old : fsE n (E0 adj) (32 * p + q) = false → nI (fb_ct (fsE n (E0 adj)) (32 * p + q)) = nI (fb_ct (fsE n (E0 adj)) (32 * p + (q + 1))) := fun hf => by rw [← Nat.add_assoc, fb_ct_succ, hf]; rfl
      have new : fsE n (E0 adj) (32 * p + q) = true → nI (fb_ct (fsE n (E0 adj)) (32 * p + q)) + 1 = nI (fb_ct (fsE n (E0 adj)) (32 * p + (q + 1))) := fun hf => by rw [← Nat.add_assoc, fb_ct_succ, hf, nI_1]; rfl
      have nx : ∀ t r, RG adj n t (32 * p + q) r → ty adj (32 * p + q) ≠ t → RG adj n t (32 * p + (q + 1)) r := fun t r h hne => RG_next h hne
      have hty : ty adj (32 * p + q) = if p = q then 0 else if adj p q = true then 1 else 2 := by
        unfold ty
        rw [show (32 * p + q) / 32 = p by omega, show (32 * p + q) % 32 = q by omega]
      rw [Pr_begin_l27_s]
      unfold Pr_begin_n27 Pr_begin_n72 Pr_begin_n114 Pr_begin_n147 Pr_begin_n158
      rw [i32', cl_nI (by omega)]
      refine ok_f (nI_ge hq (by omega)) (ok_i (fun c => ?_) (fun c => ok_e (Net_areJoined_s hn hb) ?_))
      · have c := (nI_eq (by omega) (by omega)).mp c
        rw [if_pos c] at hty
        have own := RG_own ha (by rw [hty]; exact g0)
        refine ok_i (fun c1 => ok_g (inb_nI (by omega) (by omega)) ?_) (fun c1 => ok_g (inb_nI (by omega) (by omega)) ?_)
        · obtain ⟨e1, e2⟩ := own.1 c1
          rw [e1]
          exact ih2 _ _ _ _ _ _ ⟨nI_1 q, old e2, self 0 hty, nx 1 _ g1 (by rw [hty]; decide), nx 2 _ g2 (by rw [hty]; decide), put⟩
        · obtain ⟨e1, e2⟩ := own.2 c1
          rw [new e1, ← e2]
          exact ih2 _ _ _ _ _ _ ⟨nI_1 q, rfl, self 0 hty, nx 1 _ g1 (by rw [hty]; decide), nx 2 _ g2 (by rw [hty]; decide), put⟩
      · have c : ¬ p = q := fun h => c (congrArg nI h)
        rw [if_neg c] at hty
        rw [inb_nI hp (by omega), inb_nI hq (by omega), cl_nI (by omega), cl_nI (by omega)]
        cases hv : adj p q
        · rw [hv, if_neg (by decide)] at hty
          have own := RG_own ha (by rw [hty]; exact g2)
          refine ok_t (by decide) (ok_i (fun c1 => ok_g (inb_nI (by omega) (by omega)) ?_) (fun c1 => ok_g (inb_nI (by omega) (by omega)) ?_))
          · obtain ⟨e1, e2⟩ := own.1 c1
            rw [e1]
            exact ih2 _ _ _ _ _ _ ⟨nI_1 q, old e2, nx 0 _ g0 (by rw [hty]; decide), nx 1 _ g1 (by rw [hty]; decide), self 2 hty, put⟩
          · obtain ⟨e1, e2⟩ := own.2 c1
            rw [new e1, ← e2]
            exact ih2 _ _ _ _ _ _ ⟨nI_1 q, rfl, nx 0 _ g0 (by rw [hty]; decide), nx 1 _ g1 (by rw [hty]; decide), self 2 hty, put⟩
        · rw [hv, if_pos rfl] at hty
          have own := RG_own ha (by rw [hty]; exact g1)
          refine ok_f (by decide) (ok_i (fun c1 => ok_g (inb_nI (by omega) (by omega)) ?_) (fun c1 => ok_g (inb_nI (by omega) (by omega)) ?_))
          · obtain ⟨e1, e2⟩ := own.1 c1
            rw [e1]
            exact ih2 _ _ _ _ _ _ ⟨nI_1 q, old e2, nx 0 _ g0 (by rw [hty]; decide), self 1 hty, nx 2 _ g2 (by rw [hty]; decide), put⟩
          · obtain ⟨e1, e2⟩ := own.2 c1
            rw [new e1, ← e2]
            exact ih2 _ _ _ _ _ _ ⟨nI_1 q, rfl, nx 0 _ g0 (by rw [hty]; decide), self 1 hty, nx 2 _ g2 (by rw [hty]; decide), put⟩
    · rintro r0 r1 r2 x c s ⟨rfl, rfl, g0, g1, g2, h4⟩ F2
      rw [Pr_begin_l27_s]
      unfold Pr_begin_n27 Pr_begin_n164
      have gap : ∀ b, vd n b → b < 32 * (p + 1) → b < 32 * p + n := fun b hb h => by unfold vd at hb; omega
      refine ok_t (nI_le (Nat.le_refl n) (by omega)) (ih _ _ _ _ _ _ ⟨nI_1 p, by rw [fE_gap hn], RG_gap g0 (by omega) gap, RG_gap g1 (by omega) gap, RG_gap g2 (by omega) gap, fun b hb hlt => h4 b hb (gap b hb hlt)⟩)
  · rintro r0 r1 r2 x c s ⟨rfl, rfl, g0, g1, g2, h2⟩ F
    rw [Pr_begin_l15_s]
    unfold Pr_begin_n15 Pr_begin_n170
    refine ok_t (nI_le (Nat.le_refl n) (by omega)) (ok_s ⟨_, rfl, hE, fun a ha => h2 a ha (by unfold vd at ha; omega), (fE_end hn).symm⟩)
theorem mid_0 {adj : Nat → Nat → Bool} {n c : Nat} {K : Nat → Int32} (h : can n K c (E0 adj)) : mid adj n K := ⟨can_ok h, fun a b ha hb e => (can_eq h ha hb).mp e, fun T hT a b ha hb e => (can_eq h ha hb).mpr (hT.2.1 a b ha hb e)⟩
theorem Pr_tellApart_s {n : Nat} {c0 rd sz : Int32} {fi he ke ne oke nn pa s : Nat → Int32} {su : Nat → Int64} {adj : Nat → Nat → Bool} (hw : WF n adj) (hb : Lb nn adj) (hc : rd = 0 ∨ (rd = 1 ∧ ∃ c, c0 = nI c ∧ fnl adj n s c)) : Ok (Pr_tellApart c0 (nI n) rd sz fi he ke ne oke nn pa s su) (fun z => z.2.1 = 1 ∧ ∃ c, z.1 = nI c ∧ fnl adj n z.2.2.2.2.2.2.2.2.2.1 c) := by
  have hn := hw.1
  unfold Pr_tellApart
  rcases hc with hc | ⟨h1, h2⟩
  rotate_left
  · exact ok_f (by rw [h1]; decide) (ok_s ⟨h1, h2⟩)
  refine ok_t hc (ok_b (Pr_begin_s hw hb) (fun y hy => ?_))
  obtain ⟨c, e1, h1⟩ := hy
  rw [e1]
  have fin : ∀ (r : Nat) (cn : Int32) (fi he ke ne oke pa s : Nat → Int32) (su : Nat → Int64), ((∃ c E, cn = nI c ∧ can n s c E ∧ mid adj n s ∧ r ≤ c) ∨ True) → True := fun _ _ _ _ _ _ _ _ _ _ _ => trivial
  refine fr11 (fun F g x cn fi he ke ne oke pa s su => Pr_tellApart_l25 F g x cn rd (nI n) fi he ke ne oke pa s su) (fun r g x cn fi he ke ne oke pa s su => x = nI r ∧ ((g = 1 ∧ ∃ c E, cn = nI c ∧ can n s c E ∧ mid adj n s ∧ r ≤ c) ∨ (g = 0 ∧ ∃ c, cn = nI c ∧ fnl adj n s c))) 1025 (fuel_big (by omega)) ?_ ?_ 0 (Nat.zero_le _) 1 0 (nI c) fi he ke ne oke pa y.2 su ⟨rfl, Or.inl ⟨rfl, c, _, rfl, h1, mid_0 h1, Nat.zero_le c⟩⟩
  · rintro r hr g x cn fi he ke ne oke pa s su ⟨rfl, h2⟩ F ih
    rw [Pr_tellApart_l25_s]
    unfold Pr_tellApart_n25 Pr_tellApart_n82 Pr_tellApart_n61 Pr_tellApart_n75
    refine ok_f (nI_nlt (a := 1024) (b := r) (by omega) (by decide)) ?_
    rcases h2 with ⟨rfl, c, E, rfl, h3, h4, h5⟩ | ⟨rfl, h3⟩
    rotate_left
    · exact ok_t rfl (ok_s ⟨rfl, h3⟩)
    have hcle : c ≤ 1024 := by rw [h3.2.2]; exact cnE_le
    refine ok_f (by decide) (ok_b (Pr_refine_s (cl := false) hn h4.1) (fun z hz => ?_))
    obtain ⟨d, e2, h6⟩ := hz
    have h6 : can n z.2.2.2.2.2.2.2.1 d (Es s n) := h6
    have hdle : d ≤ 1024 := by rw [h6.2.2]; exact cnE_le
    have hcd : c ≤ d := by
      rw [h3.2.2, h6.2.2]
      exact cE_le h3.1 h6.1 (fun a b ha hb g => (can_eq h3 ha hb).mp g.1)
    have m1 := mid_s hn h4 h6
    rw [e2]
    refine ok_i (fun c1 => ?_) (fun c1 => ?_)
    · have c1 : d = c := (nI_eq (by omega) (by omega)).mp c1
      subst c1
      refine ok_b (Pr_refine_s (cl := true) hn m1.1) (fun w hw2 => ?_)
      obtain ⟨d2, e3, h7⟩ := hw2
      have h7 : can n w.2.2.2.2.2.2.2.1 d2 (Ex z.2.2.2.2.2.2.2.1 n) := h7
      have hd2 : d2 ≤ 1024 := by rw [h7.2.2]; exact cnE_le
      have hdd : d ≤ d2 := by
        have := cE_le h6.1 h7.1 (fun a b ha hb g => (can_eq h6 ha hb).mp g.1)
        rw [← h6.2.2, ← h7.2.2] at this
        exact this
      rw [e3]
      refine ok_i (fun c2 => ih _ _ _ _ _ _ _ _ _ _ _ ⟨nI_1 r, Or.inr ⟨rfl, d2, rfl, ?_⟩⟩) (fun c2 => ih _ _ _ _ _ _ _ _ _ _ _ ⟨nI_1 r, Or.inl ⟨rfl, d2, _, rfl, h7, mid_x hn m1 h7, ?_⟩⟩)
      · have c2 : d2 ≤ d := (nI_leI (by omega) (by omega)).mp c2
        have : d2 = d := by omega
        subst this
        exact fnl_x hn m1 h6 h7
      · have c2 : ¬ d2 ≤ d := fun h => c2 ((nI_leI (by omega) (by omega)).mpr h)
        omega
    · have c1 : d ≠ c := fun h => c1 (congrArg nI h)
      refine ok_f (fun h => ?_) (ih _ _ _ _ _ _ _ _ _ _ _ ⟨nI_1 r, Or.inl ⟨rfl, d, _, rfl, h6, m1, by omega⟩⟩)
      have := (nI_leI (by omega) (by omega)).mp h
      omega
  · rintro g x cn fi he ke ne oke pa s su ⟨rfl, h2⟩ F
    rw [Pr_tellApart_l25_s]
    unfold Pr_tellApart_n25 Pr_tellApart_n82
    rcases h2 with ⟨rfl, c, E, rfl, h3, h4, h5⟩ | ⟨rfl, h3⟩
    · have hcle : c ≤ 1024 := by rw [h3.2.2]; exact cnE_le
      omega
    · exact ok_t (by decide) (ok_s ⟨rfl, h3⟩)
