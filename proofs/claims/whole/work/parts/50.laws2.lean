/-! the model's first laws; walks -/
def FB (L : Nat → Prop) (m : Nat) (v : Int32) : Prop := (v = 0 ∧ ∀ i, 1 ≤ i → i ≤ m → L i) ∨ ∃ i, 1 ≤ i ∧ i ≤ m ∧ v = nI i ∧ ¬ L i ∧ ∀ j, 1 ≤ j → j < i → L j
theorem FB_one {L : Nat → Prop} {m : Nat} {v w : Int32} (h : FB L m v) (h2 : FB L m w) : v = w := by
  rcases h with ⟨e, h⟩ | ⟨i, a, b, e, n1, h⟩
  · rcases h2 with ⟨e2, _⟩ | ⟨j, a2, b2, e2, n2, _⟩
    · rw [e, e2]
    · exact absurd (h j a2 b2) n2
  · rcases h2 with ⟨e2, h2⟩ | ⟨j, a2, b2, e2, n2, h2⟩
    · exact absurd (h2 i a b) n1
    · have : i = j := by
        rcases Nat.lt_or_ge i j with c | c
        · exact absurd (h2 i a c) n1
        · rcases Nat.lt_or_ge j i with c2 | c2
          · exact absurd (h j a2 c2) n2
          · omega
      rw [e, e2, this]
def Lw4 (d : Nat) (be ga : Nat → Nat) : Nat → Prop := fun i => (i = 1 → L1 d be ga) ∧ (i = 2 → L2 d be ga) ∧ (i = 3 → L3 d be ga) ∧ (i = 4 → L4 d be ga)
section LAWS2
variable {d : Nat} {be ga : Nat → Nat} {b c : Nat → Int32}
theorem not_t {s : Bool} (g : ¬ bI s = 0) : s = true := by cases s; exact absurd rfl g; rfl
theorem M_firstLaws_s {all : Int64} {k : Nat → Int64} (hT : TT d be ga) (hb : TB b be) (hc : TB c ga) : Ok (M_firstLaws (nI d) all b c k) (fun z => FB (Lw4 d be ga) 4 z.1 ∧ (z.1 = 0 → z.2.1 = lN (tN be ga d) ∧ ∀ j, j < d + 1 → z.2.2 j = lN (kN be ga j))) := by
  have hd := hT.1
  have loop : ∀ t : Bool, (t = true ↔ ga 1 = 1) → Ok (M_firstLaws_l23 (nI d) b c FUEL (bI t) 1 1 0 all k) (fun z => FB (Lw4 d be ga) 4 z.1 ∧ (z.1 = 0 → z.2.1 = lN (tN be ga d) ∧ ∀ j, j < d + 1 → z.2.2 j = lN (kN be ga j))) := by
    intro t ht
    refine fr4 (fun F y1 y2 y3 x => M_firstLaws_l23 (nI d) b c F y1 y2 y3 x all k) (fun i y1 y2 y3 x => x = nI i ∧ (∃ s : Bool, y1 = bI s ∧ (s = true ↔ ga 1 = 1 ∧ ∀ j, j < i → (j = d ∨ 1 ≤ be j) ∧ (j = 0 ∨ 1 ≤ ga j))) ∧ (∃ s : Bool, y2 = bI s ∧ (s = true ↔ ∀ j, j < i → be j + ga j ≤ be 0)) ∧ ∃ s : Bool, y3 = bI s ∧ (s = true ↔ ∀ j, j < i → (j = 0 ∨ j = d ∨ ga j ≤ ga (j + 1)) ∧ (d ≤ j + 1 ∨ be (j + 1) ≤ be j))) (d + 1) (fuel_big (by omega)) ?_ ?_ 0 (Nat.zero_le _) (bI t) 1 1 0 ⟨rfl, ⟨t, rfl, fun h => ⟨ht.mp h, all_none⟩, fun h => ht.mpr h.1⟩, ⟨true, rfl, fun _ => all_none, fun _ => rfl⟩, ⟨true, rfl, fun _ => all_none, fun _ => rfl⟩⟩
    · rintro i hi y1 y2 y3 x ⟨rfl, ⟨s1, rfl, g1⟩, ⟨s2, rfl, g2⟩, ⟨s3, rfl, g3⟩⟩ F ih
      have l1 := hT.2.1 i (by omega)
      rw [M_firstLaws_l23_s]
      have st3 : ∀ t1 t2 : Bool, (t1 = true ↔ ga 1 = 1 ∧ ∀ j, j < i + 1 → (j = d ∨ 1 ≤ be j) ∧ (j = 0 ∨ 1 ≤ ga j)) → (t2 = true ↔ ∀ j, j < i + 1 → be j + ga j ≤ be 0) → Ok (M_firstLaws_n96 (fun x1 x2 x3 x4 all sizes => M_firstLaws_l23 (nI d) b c F x1 x2 x3 x4 all sizes) (nI d) b c (bI t1) (bI s3) (nI i) (bI t2) all k) (fun z => FB (Lw4 d be ga) 4 z.1 ∧ (z.1 = 0 → z.2.1 = lN (tN be ga d) ∧ ∀ j, j < d + 1 → z.2.2 j = lN (kN be ga j))) := by
        intro t1 t2 h1 h2
        have go : ∀ t3 : Bool, (t3 = true ↔ ∀ j, j < i + 1 → (j = 0 ∨ j = d ∨ ga j ≤ ga (j + 1)) ∧ (d ≤ j + 1 ∨ be (j + 1) ≤ be j)) → Ok (M_firstLaws_l23 (nI d) b c F (bI t1) (bI t2) (bI t3) (nI i + 1) all k) (fun z => FB (Lw4 d be ga) 4 z.1 ∧ (z.1 = 0 → z.2.1 = lN (tN be ga d) ∧ ∀ j, j < d + 1 → z.2.2 j = lN (kN be ga j))) := fun t3 h3 => ih _ _ _ _ ⟨nI_1 i, ⟨t1, rfl, h1⟩, ⟨t2, rfl, h2⟩, ⟨t3, rfl, h3⟩⟩
        have no : ¬ ((i = 0 ∨ i = d ∨ ga i ≤ ga (i + 1)) ∧ (d ≤ i + 1 ∨ be (i + 1) ≤ be i)) → Ok (M_firstLaws_l23 (nI d) b c F (bI t1) (bI t2) (bI false) (nI i + 1) all k) (fun z => FB (Lw4 d be ga) 4 z.1 ∧ (z.1 = 0 → z.2.1 = lN (tN be ga d) ∧ ∀ j, j < d + 1 → z.2.2 j = lN (kN be ga j))) := fun h => go false ⟨fun h => absurd h (by decide), fun h2 => absurd (all_next.mp h2).2 h⟩
        unfold M_firstLaws_n96
        refine ok_i (fun g => ?_) (fun g => ?_)
        · unfold M_firstLaws_n168 M_firstLaws_n169
          refine go false ⟨fun h => absurd h (by decide), fun h => ?_⟩
          have := g3.mpr (all_next.mp h).1
          rw [bI_eq0.mp g] at this; exact this
        have hs3 := g3.mp (not_t g)
        -- the end of the third
        have tail : (i = 0 ∨ i = d ∨ ga i ≤ ga (i + 1)) → Ok (M_firstLaws_n134 (fun x1 x2 x3 x4 all sizes => M_firstLaws_l23 (nI d) b c F x1 x2 x3 x4 all sizes) (nI d) b (bI t1) (bI t2) (nI i) all k) (fun z => FB (Lw4 d be ga) 4 z.1 ∧ (z.1 = 0 → z.2.1 = lN (tN be ga d) ∧ ∀ j, j < d + 1 → z.2.2 j = lN (kN be ga j))) := by
          intro hg
          unfold M_firstLaws_n134 M_firstLaws_n164 M_firstLaws_n168 M_firstLaws_n169
          rw [nI_1]
          refine ok_i (fun q => ?_) (fun q => ?_)
          · have q := (nI_leI (by omega) (by omega)).mp q
            have := go true ⟨fun _ => all_next.mpr ⟨hs3, hg, Or.inl q⟩, fun _ => rfl⟩
            rw [nI_1] at this
            exact this
          · have q : ¬ d ≤ i + 1 := fun h => q ((nI_leI (by omega) (by omega)).mpr h)
            have l2 := hT.2.1 (i + 1) (by omega)
            rw [cl_nI (by omega), cl_nI (by omega), hb i (by omega), hb (i + 1) (by omega)]
            refine ok_g (inb_nI (by omega) (by omega)) (ok_g (inb_nI (by omega) (by omega)) (ok_i (fun q2 => ?_) (fun q2 => ?_)))
            · have q2 := (nI_ltI (by omega) (by omega)).mp q2
              have := no (fun h => by omega)
              rw [nI_1] at this
              exact this
            · have q2 : be (i + 1) ≤ be i := Nat.le_of_not_lt (fun h => q2 ((nI_ltI (by omega) (by omega)).mpr h))
              have := go true ⟨fun _ => all_next.mpr ⟨hs3, hg, Or.inr q2⟩, fun _ => rfl⟩
              rw [nI_1] at this
              exact this
        refine ok_i (fun q => tail (Or.inl ((nI_eq (b := 0) (by omega) (by decide)).mp q))) (fun q => ok_i (fun q2 => tail (Or.inr (Or.inl ((nI_eq (by omega) (by omega)).mp q2)))) (fun q2 => ?_))
        have q : ¬ i = 0 := fun h => q (by rw [h]; rfl)
        have q2 : ¬ i = d := fun h => q2 (congrArg nI h)
        have l2 := hT.2.1 (i + 1) (by omega)
        rw [nI_1, cl_nI (by omega), cl_nI (by omega), hc i (by omega), hc (i + 1) (by omega)]
        refine ok_g (inb_nI (by omega) (by omega)) (ok_g (inb_nI (by omega) (by omega)) (ok_i (fun q3 => ?_) (fun q3 => tail (Or.inr (Or.inr (Nat.le_of_not_lt (fun h => q3 ((nI_ltI (by omega) (by omega)).mpr h))))))))
        have q3 := (nI_ltI (by omega) (by omega)).mp q3
        unfold M_firstLaws_n168 M_firstLaws_n169
        exact no (fun h => by omega)
      have st2 : ∀ t1 : Bool, (t1 = true ↔ ga 1 = 1 ∧ ∀ j, j < i + 1 → (j = d ∨ 1 ≤ be j) ∧ (j = 0 ∨ 1 ≤ ga j)) → Ok (M_firstLaws_n77 (fun x1 x2 x3 x4 all sizes => M_firstLaws_l23 (nI d) b c F x1 x2 x3 x4 all sizes) (nI d) b c (bI s2) (bI s3) (nI i) (bI t1) all k) (fun z => FB (Lw4 d be ga) 4 z.1 ∧ (z.1 = 0 → z.2.1 = lN (tN be ga d) ∧ ∀ j, j < d + 1 → z.2.2 j = lN (kN be ga j))) := by
        intro t1 h1
        unfold M_firstLaws_n77 M_firstLaws_n95
        refine ok_i (fun g => st3 t1 false h1 ⟨fun h => absurd h (by decide), fun h => ?_⟩) (fun g => ok_e (M_a_s (by omega) hb hc) (ok_i (fun q => st3 t1 false h1 ⟨fun h => absurd h (by decide), fun h => ?_⟩) (fun q => st3 t1 true h1 ⟨fun _ => all_next.mpr ⟨g2.mp (not_t g), (lI_pos hT (by omega)).mp (nlt_le.mp q)⟩, fun _ => rfl⟩)))
        · have := g2.mpr (all_next.mp h).1
          rw [bI_eq0.mp g] at this; exact this
        · exact absurd ((lI_pos hT (by omega)).mpr (all_next.mp h).2) (fun h => nlt_le.mpr h q)
      have no1 : ¬ ((i = d ∨ 1 ≤ be i) ∧ (i = 0 ∨ 1 ≤ ga i)) → (false = true ↔ ga 1 = 1 ∧ ∀ j, j < i + 1 → (j = d ∨ 1 ≤ be j) ∧ (j = 0 ∨ 1 ≤ ga j)) := fun h => ⟨fun h => absurd h (by decide), fun h2 => absurd (all_next.mp h2.2).2 h⟩
      unfold M_firstLaws_n23
      refine ok_f (nI_nlt (a := d) (b := i) (by omega) (by omega)) (ok_i (fun g => ?_) (fun g => ?_))
      · unfold M_firstLaws_n76
        refine st2 false ⟨fun h => absurd h (by decide), fun h => ?_⟩
        have := g1.mpr ⟨h.1, (all_next.mp h.2).1⟩
        rw [bI_eq0.mp g] at this; exact this
      have hs1 := g1.mp (not_t g)
      have mid1 : (i = d ∨ 1 ≤ be i) → Ok (M_firstLaws_n56 (fun x1 x2 x3 x4 all sizes => M_firstLaws_l23 (nI d) b c F x1 x2 x3 x4 all sizes) (nI d) b c (bI s2) (bI s3) (nI i) all k) (fun z => FB (Lw4 d be ga) 4 z.1 ∧ (z.1 = 0 → z.2.1 = lN (tN be ga d) ∧ ∀ j, j < d + 1 → z.2.2 j = lN (kN be ga j))) := by
        intro hg
        unfold M_firstLaws_n56 M_firstLaws_n72 M_firstLaws_n76
        rw [cl_nI (by omega), hc i (by omega)]
        refine ok_i (fun q => st2 true ⟨fun _ => ⟨hs1.1, all_next.mpr ⟨hs1.2, hg, Or.inl ((nI_eq (b := 0) (by omega) (by decide)).mp q)⟩⟩, fun _ => rfl⟩) (fun q => ok_g (inb_nI (by omega) (by omega)) (ok_i (fun q2 => st2 false (no1 (fun h => ?_))) (fun q2 => st2 true ⟨fun _ => ⟨hs1.1, all_next.mpr ⟨hs1.2, hg, Or.inr ?_⟩⟩, fun _ => rfl⟩)))
        · have q : ¬ i = 0 := fun h => q (by rw [h]; rfl)
          have q2 := (nI_ltI (b := 1) (by omega) (by decide)).mp q2
          omega
        · exact Nat.le_of_not_lt (fun h => q2 ((nI_ltI (b := 1) (by omega) (by decide)).mpr h))
      rw [cl_nI (by omega), hb i (by omega)]
      refine ok_i (fun q => mid1 (Or.inl ((nI_eq (by omega) (by omega)).mp q))) (fun q => ok_g (inb_nI (by omega) (by omega)) (ok_i (fun q2 => ?_) (fun q2 => mid1 (Or.inr (Nat.le_of_not_lt (fun h => q2 ((nI_ltI (b := 1) (by omega) (by decide)).mpr h)))))))
      have q : ¬ i = d := fun h => q (congrArg nI h)
      have q2 := (nI_ltI (b := 1) (by omega) (by decide)).mp q2
      unfold M_firstLaws_n76
      exact st2 false (no1 (fun h => by omega))
    · rintro y1 y2 y3 x ⟨rfl, ⟨s1, rfl, g1⟩, ⟨s2, rfl, g2⟩, ⟨s3, rfl, g3⟩⟩ F
      rw [M_firstLaws_l23_s]
      unfold M_firstLaws_n23 M_firstLaws_n176
      have e1 : (ga 1 = 1 ∧ ∀ j, j < d + 1 → (j = d ∨ 1 ≤ be j) ∧ (j = 0 ∨ 1 ≤ ga j)) ↔ L1 d be ga := by
        constructor
        · rintro ⟨h1, h2⟩
          refine ⟨h1, fun i hi => ⟨?_, ?_⟩⟩
          · have := (h2 i (by omega)).1; omega
          · have := (h2 (i + 1) (by omega)).2; omega
        · rintro ⟨h1, h2⟩
          refine ⟨h1, fun j hj => ⟨?_, ?_⟩⟩
          · by_cases e : j = d
            · exact Or.inl e
            · exact Or.inr (h2 j (by omega)).1
          · by_cases e : j = 0
            · exact Or.inl e
            · have := (h2 (j - 1) (by omega)).2
              rw [show j - 1 + 1 = j by omega] at this
              exact Or.inr this
      have e3 : (∀ j, j < d + 1 → (j = 0 ∨ j = d ∨ ga j ≤ ga (j + 1)) ∧ (d ≤ j + 1 ∨ be (j + 1) ≤ be j)) ↔ L3 d be ga := by
        have h0 := hT.2.2.2.1
        constructor
        · intro h i hi
          have := h i (by omega)
          refine ⟨?_, fun h => by omega⟩
          by_cases e : i = 0
          · rw [e, h0]; omega
          · omega
        · intro h j hj
          by_cases e : j = d
          · exact ⟨Or.inr (Or.inl e), Or.inl (by omega)⟩
          · have := h j (by omega)
            refine ⟨Or.inr (Or.inr this.1), ?_⟩
            by_cases e2 : d ≤ j + 1
            · exact Or.inl e2
            · exact Or.inr (this.2 (by omega))
      rw [e1] at g1
      rw [e3] at g3
      have lw : ∀ i, 1 ≤ i → (i = 1 → L1 d be ga) → (i = 2 → L2 d be ga) → (i = 3 → L3 d be ga) → (i = 4 → L4 d be ga) → Lw4 d be ga i := fun i _ a b c e => ⟨a, b, c, e⟩
      refine ok_t (nI_lt (by omega) (by omega)) (ok_i (fun q => ok_s ⟨Or.inr ⟨1, by omega, by omega, rfl, fun h => ?_, fun j a b => by omega⟩, fun h => absurd h (show ¬ (1 : Int32) = 0 by decide)⟩) (fun q => ok_i (fun q2 => ok_s ⟨Or.inr ⟨2, by omega, by omega, rfl, fun h => ?_, fun j a b => lw j a (fun _ => g1.mp (not_t q)) (by omega) (by omega) (by omega)⟩, fun h => absurd h (show ¬ (2 : Int32) = 0 by decide)⟩) (fun q2 => ok_i (fun q3 => ok_s ⟨Or.inr ⟨3, by omega, by omega, rfl, fun h => ?_, fun j a b => lw j a (fun _ => g1.mp (not_t q)) (fun _ => g2.mp (not_t q2)) (by omega) (by omega)⟩, fun h => absurd h (show ¬ (3 : Int32) = 0 by decide)⟩) (fun q3 => ok_m (M_layers_s (tot := all) hT hb hc (g1.mp (not_t q))) (fun z hz => ?_)))))
      · have := g1.mpr (h.1 rfl)
        rw [bI_eq0.mp q] at this; exact absurd this (by decide)
      · have := g2.mpr (h.2.1 rfl)
        rw [bI_eq0.mp q2] at this; exact absurd this (by decide)
      · have := g3.mpr (h.2.2.1 rfl)
        rw [bI_eq0.mp q3] at this; exact absurd this (by decide)
      · rcases Classical.em (L4 d be ga) with h4 | h4
        · obtain ⟨z1, z2⟩ := hz.1 h4
          exact ⟨Or.inl ⟨z1, fun i a b => lw i a (fun _ => g1.mp (not_t q)) (fun _ => g2.mp (not_t q2)) (fun _ => g3.mp (not_t q3)) (fun _ => h4)⟩, fun _ => z2⟩
        · have z1 := hz.2 h4
          exact ⟨Or.inr ⟨4, by omega, by omega, z1, fun h => h4 (h.2.2.2 rfl), fun j a b => lw j a (fun _ => g1.mp (not_t q)) (fun _ => g2.mp (not_t q2)) (fun _ => g3.mp (not_t q3)) (by omega)⟩, fun h => by rw [z1] at h; exact absurd h (by decide)⟩
  unfold M_firstLaws M_firstLaws_n15
  have l2 := hT.2.1 1 (by omega)
  rw [show (1 : Int32).toNatClampNeg = 1 from rfl, hc 1 (by omega)]
  exact ok_i (fun g => loop true ⟨fun _ => (nI_eq (b := 1) (by omega) (by decide)).mp g, fun _ => rfl⟩) (fun g => loop false ⟨fun h => absurd h (by decide), fun h => absurd (by rw [h]; rfl) g⟩)
/-! walks -/
def wS (be ga : Nat → Nat) (d : Nat) (w : Nat → Int64) (i : Nat) : Int64 := ((nI (ga i)).toInt64 * (if i = 0 then 0 else w (i - 1)) + (lI be ga i).toInt64 * w i) + (nI (be i)).toInt64 * (if i < d then w (i + 1) else 0)
def wK (be ga : Nat → Nat) (d : Nat) : Nat → Nat → Int64
  | 0, i => if i = 0 then 1 else 0
  | m + 1, i => wS be ga d (wK be ga d m) i
theorem wS_cong {w v : Nat → Int64} {i : Nat} (hi : i < d + 1) (h : ∀ j, j < d + 1 → w j = v j) : wS be ga d w i = wS be ga d v i := by
  unfold wS
  rw [h i hi]
  by_cases c : i = 0
  · rw [if_pos c, if_pos c]
    by_cases e : i < d
    · rw [if_pos e, if_pos e, h (i + 1) (by omega)]
    · rw [if_neg e, if_neg e]
  · rw [if_neg c, if_neg c, h (i - 1) (by omega)]
    by_cases e : i < d
    · rw [if_pos e, if_pos e, h (i + 1) (by omega)]
    · rw [if_neg e, if_neg e]
theorem JA_fillL_s {n : Nat} (hn : n < 2 ^ 31) (v : Int64) (f : Nat → Int64) : Ok (JA_fillL v n f) (fun g => ∀ j, j < n → g j = v) := by
  unfold JA_fillL
  refine fr2 (fun F x g => JA_fillL_l6 n F v x (Int32.ofNat n) g) (fun i x g => x = nI i ∧ ∀ j, j < i → g j = v) n (fuel_big (by omega)) ?_ ?_ 0 (Nat.zero_le _) 0 f ⟨rfl, all_none⟩
  · rintro i hi x g ⟨rfl, h1⟩ F ih
    rw [JA_fillL_l6_s]
    unfold JA_fillL_n6
    rw [cl_nI (by omega)]
    exact ok_f (nI_ge hi (by omega)) (ok_g (inb_nI hi (by omega)) (ih _ _ ⟨nI_1 i, all_next.mpr ⟨fun j hj => by rw [pk_uLn (by omega)]; exact h1 j hj, pk_uLs⟩⟩))
  · rintro x g ⟨rfl, h1⟩ F
    rw [JA_fillL_l6_s]
    unfold JA_fillL_n6 JA_fillL_n22
    exact ok_t (nI_le (Nat.le_refl n) (by omega)) (ok_s h1)
theorem Td_countWalks_s {i m : Nat} {wr : Nat → Int64} (hT : TT d be ga) (hb : TB b be) (hc : TB c ga) (hi : i < d + 1) (hm : m ≤ 8) : Ok (Td_countWalks (nI i) (nI m) (nI d) b c wr) (fun z => z.1 = wK be ga d m i) := by
  have hd := hT.1
  unfold Td_countWalks
  refine ok_b (JA_fillL_s (by decide) 0 wr) (fun w0 hw0 => ?_)
  refine fr2 (fun F x w => Td_countWalks_l17 (nI d) b c F (nI i) (nI m) x w) (fun s x w => x = nI s ∧ ∀ j, j < d + 1 → w j = wK be ga d s j) m (fuel_big (by omega)) ?_ ?_ 0 (Nat.zero_le _) 0 _ ⟨rfl, fun j hj => ?_⟩
  · rintro s hs x w ⟨rfl, h1⟩ F ih
    rw [Td_countWalks_l17_s]
    unfold Td_countWalks_n17
    refine ok_f (nI_ge hs (by omega)) ?_
    refine fr3 (fun F y x w => Td_countWalks_l28 _ (nI d) b c F (nI i) (nI m) (nI s) y x w) (fun k y x w => x = nI k ∧ y = (if k = 0 then 0 else wK be ga d s (k - 1)) ∧ (∀ j, j < k → w j = wK be ga d (s + 1) j) ∧ ∀ j, k ≤ j → j < d + 1 → w j = wK be ga d s j) (d + 1) (fuel_big (by omega)) ?_ ?_ 0 (Nat.zero_le _) 0 0 w ⟨rfl, rfl, all_none, fun j _ hj => h1 j hj⟩
    · rintro k hk y x w ⟨rfl, rfl, g1, g2⟩ F2 ih2
      rw [Td_countWalks_l28_s]
      unfold Td_countWalks_n28 Td_countWalks_n68
      rw [cl_nI (by omega), hc k (by omega), hb k (by omega), g2 k (Nat.le_refl k) hk]
      have fin : ∀ v : Int64, v = (if k < d then wK be ga d s (k + 1) else 0) → Ok (gd (inb (nI k) 6) <| bnd (Td_level (nI k) b c) fun z1 => lt (((((nI (ga k)).toInt64) * (if k = 0 then 0 else wK be ga d s (k - 1))) + ((z1.toInt64) * (wK be ga d s k))) + (((nI (be k)).toInt64) * v)) fun y2 => Td_countWalks_l28 (fun x1 x2 x3 walkRow => Td_countWalks_l17 (nI d) b c F x1 x2 x3 walkRow) (nI d) b c F2 (nI i) (nI m) (nI s) (wK be ga d s k) (nI k + 1) (vp_updL w k y2)) (fun z => z.1 = wK be ga d m i) := by
        intro v hv
        refine ok_g (inb_nI (by omega) (by omega)) (ok_e (Td_level_s (by omega) hb hc) (ok_l (ih2 _ _ _ ⟨nI_1 k, by rw [if_neg (by omega), Nat.add_sub_cancel], all_next.mpr ⟨fun j hj => by rw [pk_uLn (by omega)]; exact g1 j hj, ?_⟩, fun j hj hj2 => by rw [pk_uLn (by omega)]; exact g2 j (by omega) hj2⟩)))
        rw [pk_uLs, hv]
        rfl
      refine ok_f (nI_nlt (a := d) (b := k) (by omega) (by omega)) (ok_g (inb_nI (by omega) (by omega)) (ok_i (fun q => fin 0 ?_) (fun q => ?_)))
      · have q := (nI_leI (by omega) (by omega)).mp q
        rw [if_neg (by omega)]
      · have q : ¬ d ≤ k := fun h => q ((nI_leI (by omega) (by omega)).mpr h)
        rw [nI_1, cl_nI (by omega), g2 (k + 1) (by omega) (by omega)]
        refine ok_g (inb_nI (by omega) (by omega)) ?_
        have := fin (wK be ga d s (k + 1)) (by rw [if_pos (by omega)])
        rw [nI_1] at this
        exact this
    · rintro y x w ⟨rfl, rfl, g1, g2⟩ F2
      rw [Td_countWalks_l28_s]
      unfold Td_countWalks_n28 Td_countWalks_n121
      exact ok_t (nI_lt (by omega) (by omega)) (ih _ _ ⟨nI_1 s, g1⟩)
  · rintro x w ⟨rfl, h1⟩ F
    rw [Td_countWalks_l17_s]
    unfold Td_countWalks_n17 Td_countWalks_n127
    refine ok_t (nI_le (Nat.le_refl m) (by omega)) (ok_g (inb_nI (by omega) (by omega)) (ok_s ?_))
    show w (nI i).toNatClampNeg = _
    rw [cl_nI (by omega)]
    exact h1 i hi
  · show vp_updL w0 0 1 j = if j = 0 then 1 else 0
    by_cases e : j = 0
    · rw [e, pk_uLs]; rfl
    · rw [pk_uLn e, if_neg e]; exact hw0 j (by omega)
end LAWS2
