
/-! the seven laws and what is kept of them -/
def Lw (d : Nat) (be ga : Nat → Nat) : Nat → Prop := fun i => (i = 1 → L1 d be ga) ∧ (i = 2 → L2 d be ga) ∧ (i = 3 → L3 d be ga) ∧ (i = 4 → L4 d be ga) ∧ (i = 5 → L5 d be ga) ∧ (i = 6 → L6 d be ga) ∧ (i = 7 → L7 d be ga)
def AllL (d : Nat) (be ga : Nat → Nat) (m : Nat) : Prop := ∀ i, 1 ≤ i → i ≤ m → Lw d be ga i
def JC (d : Nat) (be ga : Nat → Nat) (br rc : Int32) (tot : Int64) (ro ti : Nat → Int32) (k t : Nat → Int64) : Prop := FB (Lw d be ga) 7 br ∧ (AllL d be ga 4 → tot = lN (tN be ga d) ∧ ∀ j, j < d + 1 → k j = lN (kN be ga j)) ∧ (AllL d be ga 6 → (∀ j, j < d + 1 → TA d be ga t j) ∧ rc = nI (rC be ga d) ∧ ∀ k, k < rC be ga d → ro k = rV be ga d k ∧ ti k = rT be ga d k)
section JUDGE
variable {d : Nat} {be ga : Nat → Nat} {b c : Nat → Int32}
theorem RO_all (hT : TT d be ga) (h1 : L1 d be ga) (h2 : L2 d be ga) (h4 : L4 d be ga) (h6 : L6 d be ga) : ∀ j, j < d + 1 → RO d be ga j := by
  have key : ∀ j, (j < d + 1 → RO d be ga j) ∧ (j + 1 < d + 1 → RO d be ga (j + 1)) := by
    intro j
    induction j with
    | zero => exact ⟨fun _ => RO_0, fun _ => RO_1 hT h1 h2⟩
    | succ j ih => exact ⟨ih.2, fun h => RO_next hT h1 h4 (by omega) (by omega) (ih.2 (by omega)) (ih.1 (by omega)) (fun i hi l hl => h6 (j + 1) (by omega) (by omega) i hi l hl)⟩
  exact fun j hj => (key j).1 hj
theorem FB_at {L : Nat → Prop} {m i : Nat} (h1 : 1 ≤ i) (h2 : i ≤ m) (hn : ¬ L i) (h : ∀ j, 1 ≤ j → j < i → L j) : FB L m (nI i) := Or.inr ⟨i, h1, h2, rfl, hn, h⟩
theorem Lw1 : Lw d be ga 1 ↔ L1 d be ga := ⟨fun h => h.1 rfl, fun h => ⟨fun _ => h, by omega, by omega, by omega, by omega, by omega, by omega⟩⟩
theorem Lw2 : Lw d be ga 2 ↔ L2 d be ga := ⟨fun h => h.2.1 rfl, fun h => ⟨by omega, fun _ => h, by omega, by omega, by omega, by omega, by omega⟩⟩
theorem Lw3 : Lw d be ga 3 ↔ L3 d be ga := ⟨fun h => h.2.2.1 rfl, fun h => ⟨by omega, by omega, fun _ => h, by omega, by omega, by omega, by omega⟩⟩
theorem Lw4' : Lw d be ga 4 ↔ L4 d be ga := ⟨fun h => h.2.2.2.1 rfl, fun h => ⟨by omega, by omega, by omega, fun _ => h, by omega, by omega, by omega⟩⟩
theorem Lw5 : Lw d be ga 5 ↔ L5 d be ga := ⟨fun h => h.2.2.2.2.1 rfl, fun h => ⟨by omega, by omega, by omega, by omega, fun _ => h, by omega, by omega⟩⟩
theorem Lw6 : Lw d be ga 6 ↔ L6 d be ga := ⟨fun h => h.2.2.2.2.2.1 rfl, fun h => ⟨by omega, by omega, by omega, by omega, by omega, fun _ => h, by omega⟩⟩
theorem Lw7 : Lw d be ga 7 ↔ L7 d be ga := ⟨fun h => h.2.2.2.2.2.2 rfl, fun h => ⟨by omega, by omega, by omega, by omega, by omega, by omega, fun _ => h⟩⟩
theorem AllL_0 : AllL d be ga 0 := fun i a b => by omega
theorem AllL_s {m : Nat} (h : AllL d be ga m) (h2 : Lw d be ga (m + 1)) : AllL d be ga (m + 1) := by
  intro i a b
  by_cases e : i = m + 1
  · rw [e]; exact h2
  · exact h i a (by omega)
theorem AllL_le {m n : Nat} (h : AllL d be ga m) (hn : n ≤ m) : AllL d be ga n := fun i a b => h i a (by omega)
theorem JC_at {m : Nat} {rc : Int32} {tot : Int64} {ro ti : Nat → Int32} {k t : Nat → Int64} (hm : m + 1 ≤ 7) (h : AllL d be ga m) (hn : ¬ Lw d be ga (m + 1)) (h4 : 4 ≤ m → tot = lN (tN be ga d) ∧ ∀ j, j < d + 1 → k j = lN (kN be ga j)) (h6 : 6 ≤ m → (∀ j, j < d + 1 → TA d be ga t j) ∧ rc = nI (rC be ga d) ∧ ∀ k, k < rC be ga d → ro k = rV be ga d k ∧ ti k = rT be ga d k) : JC d be ga (nI (m + 1)) rc tot ro ti k t := by
  refine ⟨FB_at (by omega) hm hn (fun j a b => h j a (by omega)), fun a => ?_, fun a => ?_⟩
  · by_cases e : 4 ≤ m
    · exact h4 e
    · exact absurd (a (m + 1) (by omega) (by omega)) hn
  · by_cases e : 6 ≤ m
    · exact h6 e
    · exact absurd (a (m + 1) (by omega) (by omega)) hn
theorem z01 {P : Prop} {z : Int32} (h : (P → z = 1) ∧ (¬ P → z = 0)) : (z = 0 → ¬ P) ∧ (¬ z = 0 → P) := by
  refine ⟨fun e p => ?_, fun e => Classical.byContradiction (fun p => e (h.2 p))⟩
  have := h.1 p
  rw [e] at this
  exact absurd this (by decide)
theorem Td_judge_s {rc : Int32} {tot : Int64} {ro ti : Nat → Int32} {k u t : Nat → Int64} (hT : TT d be ga) (hb : TB b be) (hc : TB c ga) : Ok (Td_judge (nI d) rc tot b c ro ti k u t) (fun z => JC d be ga z.1 z.2.1 z.2.2.1 z.2.2.2.1 z.2.2.2.2.1 z.2.2.2.2.2.1 z.2.2.2.2.2.2.2) := by
  unfold Td_judge Td_judge_n72
  refine ok_b (Td_isPositive_s hT hb hc) (fun z1 e1 => ok_i (fun q => ok_s (JC_at (m := 0) (by omega) AllL_0 (fun h => (z01 e1).1 q (Lw1.mp h)) (by omega) (by omega))) (fun q1 => ?_))
  have h1 := (z01 e1).2 q1
  have a1 := AllL_s AllL_0 (Lw1.mpr h1)
  refine ok_b (Td_hasRoom_s hT hb hc) (fun z2 e2 => ok_i (fun q => ok_s (JC_at (m := 1) (by omega) a1 (fun h => (z01 e2).1 q (Lw2.mp h)) (by omega) (by omega))) (fun q2 => ?_))
  have h2 := (z01 e2).2 q2
  have a2 := AllL_s a1 (Lw2.mpr h2)
  refine ok_b (Td_isInOrder_s hT hb hc) (fun z3 e3 => ok_i (fun q => ok_s (JC_at (m := 2) (by omega) a2 (fun h => (z01 e3).1 q (Lw3.mp h)) (by omega) (by omega))) (fun q3 => ?_))
  have h3 := (z01 e3).2 q3
  have a3 := AllL_s a2 (Lw3.mpr h3)
  refine ok_b (Td_countLayers_s hT hb hc h1) (fun z4 e4 => ?_)
  have e4' : (L4 d be ga → z4.1 = 1) ∧ (¬ L4 d be ga → z4.1 = 0) := ⟨fun h => (e4.1 h).1, e4.2⟩
  refine ok_i (fun q => ok_s (JC_at (m := 3) (by omega) a3 (fun h => (z01 e4').1 q (Lw4'.mp h)) (by omega) (by omega))) (fun q4 => ?_)
  have h4 := (z01 e4').2 q4
  have a4 := AllL_s a3 (Lw4'.mpr h4)
  obtain ⟨_, ek⟩ := e4.1 h4
  obtain ⟨z4a, z4b, z4c⟩ := z4
  obtain ⟨rfl, ek2⟩ : z4b = lN (tN be ga d) ∧ ∀ j, j < d + 1 → z4c j = lN (kN be ga j) := ek
  refine ok_b (Td_isPaired_s hT hb hc h2 h4 ek2) (fun z5 e5 => ok_i (fun q => ok_s (JC_at (m := 4) (by omega) a4 (fun h => (z01 e5).1 q (Lw5.mp h)) (fun _ => ⟨rfl, ek2⟩) (by omega))) (fun q5 => ?_))
  have h5 := (z01 e5).2 q5
  have a5 := AllL_s a4 (Lw5.mpr h5)
  refine ok_b (Td_layFirstThirds_s hT hb hc) (fun z6 e6 => ok_b (Td_layOtherThirds_s hT hb hc h1 h2 h4 e6.1 e6.2) (fun z7 e7 => ?_))
  have e7' : (L6 d be ga → z7.1 = 1) ∧ (¬ L6 d be ga → z7.1 = 0) := ⟨fun h => (e7.1 h).1, e7.2⟩
  refine ok_i (fun q => ok_s (JC_at (m := 5) (by omega) a5 (fun h => (z01 e7').1 q (Lw6.mp h)) (fun _ => ⟨rfl, ek2⟩) (by omega))) (fun q6 => ?_)
  have h6 := (z01 e7').2 q6
  have a6 := AllL_s a5 (Lw6.mpr h6)
  have et := (e7.1 h6).2
  refine ok_b (Td_findRoots_s hT hb hc h1 h2 h4 h6 (RO_all hT h1 h2 h4 h6)) (fun z8 e8 => ok_i (fun q => ok_s (JC_at (m := 6) (by omega) a6 (fun h => (z01 e8.1).1 q (Lw7.mp h)) (fun _ => ⟨rfl, ek2⟩) (fun _ => ⟨et, e8.2⟩))) (fun q7 => ok_s ⟨Or.inl ⟨rfl, AllL_s a6 (Lw7.mpr ((z01 e8.1).2 q7))⟩, fun _ => ⟨rfl, ek2⟩, fun _ => ⟨et, e8.2⟩⟩))
def JY (d : Nat) (be ga : Nat → Nat) (y : Int32 × Int32 × Int32 × Int64 × (Nat → Int32) × (Nat → Int32) × (Nat → Int64) × (Nat → Int64) × (Nat → Int64)) : Prop := JC d be ga y.1 y.2.2.1 y.2.2.2.1 y.2.2.2.2.1 y.2.2.2.2.2.1 y.2.2.2.2.2.2.1 y.2.2.2.2.2.2.2.2
def JK (d : Nat) (be ga : Nat → Nat) (br jd rc : Int32) (tot : Int64) (ro ti : Nat → Int32) (k t : Nat → Int64) : Prop := jd = 0 ∨ JC d be ga br rc tot ro ti k t
theorem Td_firstBroken_s {br jd rc : Int32} {tot : Int64} {ro ti : Nat → Int32} {k u t : Nat → Int64} (hT : TT d be ga) (hb : TB b be) (hc : TB c ga) (hj : JK d be ga br jd rc tot ro ti k t) : Ok (Td_firstBroken br jd (nI d) rc tot b c ro ti k u t) (fun z => z.1 = z.2.1 ∧ JY d be ga z.2) := by
  unfold Td_firstBroken Td_firstBroken_n20
  exact ok_i (fun q => ok_b (Td_judge_s hT hb hc) (fun z hz => ok_s ⟨rfl, hz⟩)) (fun q => ok_s ⟨rfl, hj.resolve_left q⟩)
theorem Td_keepsLawsTo_s {m : Nat} {br jd rc : Int32} {tot : Int64} {ro ti : Nat → Int32} {k u t : Nat → Int64} (hm : m ≤ 7) (hT : TT d be ga) (hb : TB b be) (hc : TB c ga) (hj : JK d be ga br jd rc tot ro ti k t) : Ok (Td_keepsLawsTo (nI m) br jd (nI d) rc tot b c ro ti k u t) (fun z => ((AllL d be ga m → z.1 = 1) ∧ (¬ AllL d be ga m → z.1 = 0)) ∧ JY d be ga z.2) := by
  unfold Td_keepsLawsTo Td_keepsLawsTo_n14 Td_keepsLawsTo_n19
  refine ok_b (Td_firstBroken_s hT hb hc hj) (fun z hz => ?_)
  have fb : FB (Lw d be ga) 7 z.1 := by rw [hz.1]; exact hz.2.1
  refine ok_i (fun q => ok_g isb_1 (ok_s ⟨⟨fun _ => rfl, fun h => ?_⟩, hz.2⟩)) (fun q => ok_i (fun q2 => ok_g isb_0 (ok_s ⟨⟨fun h => ?_, fun _ => rfl⟩, hz.2⟩)) (fun q2 => ok_g isb_1 (ok_s ⟨⟨fun _ => rfl, fun h => ?_⟩, hz.2⟩)))
  · rcases fb with ⟨_, h2⟩ | ⟨i, a, b, e, _⟩
    · exact absurd (AllL_le h2 hm) h
    · rw [e] at q
      exact absurd q (nI_ne0 (by omega) (by omega))
  · rcases fb with ⟨e, _⟩ | ⟨i, a, b, e, hn, _⟩
    · exact absurd e q
    · rw [e] at q2
      exact absurd (h i a ((nI_leI (by omega) (by omega)).mp q2)) hn
  · rcases fb with ⟨e, _⟩ | ⟨i, a, b, e, hn, h2⟩
    · exact absurd e q
    · rw [e] at q2
      have : ¬ i ≤ m := fun h => q2 ((nI_leI (by omega) (by omega)).mpr h)
      exact absurd (fun j a b => h2 j a (by omega)) h
/-! the model's laws -/
theorem FB4 {v : Int32} (h : FB (Lw4 d be ga) 4 v) : FB (Lw d be ga) 4 v := by
  have e : ∀ i, i ≤ 4 → (Lw4 d be ga i ↔ Lw d be ga i) := fun i hi => ⟨fun h => ⟨h.1, h.2.1, h.2.2.1, h.2.2.2, by omega, by omega, by omega⟩, fun h => ⟨h.1, h.2.1, h.2.2.1, h.2.2.2.1⟩⟩
  rcases h with ⟨a, h⟩ | ⟨i, a, b, e2, hn, h⟩
  · exact Or.inl ⟨a, fun i x y => (e i y).mp (h i x y)⟩
  · exact Or.inr ⟨i, a, b, e2, fun h2 => hn ((e i b).mpr h2), fun j x y => (e j (by omega)).mp (h j x y)⟩
theorem FB_up {L : Nat → Prop} {m n : Nat} {v : Int32} (h : FB L m v) (hv : ¬ v = 0) (hmn : m ≤ n) : FB L n v := by
  rcases h with ⟨a, _⟩ | ⟨i, a, b, e2, hn, h⟩
  · exact absurd a hv
  · exact Or.inr ⟨i, a, by omega, e2, hn, h⟩
theorem FB_le0 {L : Nat → Prop} {m : Nat} {v : Int32} (h : FB L m v) (hm : m ≤ 7) : v ≤ 0 ↔ v = 0 := by
  rcases h with ⟨a, _⟩ | ⟨i, a, b, e2, _⟩
  · rw [a]; decide
  · rw [e2, show (0 : Int32) = nI 0 from rfl, nI_leI (by omega) (by omega), nI_eq (by omega) (by omega)]; omega
theorem FB_all {L : Nat → Prop} {m : Nat} {v : Int32} (h : FB L m v) (hm : m ≤ 7) (hv : v = 0) : ∀ i, 1 ≤ i → i ≤ m → L i := by
  rcases h with ⟨_, h⟩ | ⟨i, a, b, e2, _⟩
  · exact h
  · rw [e2] at hv; exact absurd hv (nI_ne0 (by omega) (by omega))
theorem FB_not {L : Nat → Prop} {m : Nat} {v : Int32} (h : FB L m v) (hv : ¬ v = 0) : ¬ ∀ i, 1 ≤ i → i ≤ m → L i := by
  rcases h with ⟨a, _⟩ | ⟨i, a, b, _, hn, _⟩
  · exact absurd a hv
  · exact fun h => hn (h i a b)
theorem M_first_s {all : Int64} {k : Nat → Int64} (hT : TT d be ga) (hb : TB b be) (hc : TB c ga) : Ok (M_firstLaws (nI d) all b c k) (fun z => FB (Lw d be ga) 4 z.1 ∧ (z.1 ≤ 0 → AllL d be ga 4 ∧ z.2.1 = lN (tN be ga d) ∧ ∀ j, j < d + 1 → z.2.2 j = lN (kN be ga j)) ∧ (¬ z.1 ≤ 0 → ¬ AllL d be ga 4)) := by
  refine ok_m (M_firstLaws_s hT hb hc) (fun z hz => ?_)
  have f := FB4 hz.1
  exact ⟨f, fun h => ⟨FB_all f (by omega) ((FB_le0 f (by omega)).mp h), hz.2 ((FB_le0 f (by omega)).mp h)⟩, fun h => FB_not f (fun e => h ((FB_le0 f (by omega)).mpr e))⟩
theorem M_laws_s {all : Int64} {k t : Nat → Int64} (hT : TT d be ga) (hb : TB b be) (hc : TB c ga) : Ok (M_laws (nI d) all b c k t) (fun z => FB (Lw d be ga) 6 z.1 ∧ (z.1 ≤ 0 → AllL d be ga 6 ∧ z.2.1 = lN (tN be ga d) ∧ (∀ j, j < d + 1 → z.2.2.1 j = lN (kN be ga j)) ∧ ∀ j, j < d + 1 → TA d be ga z.2.2.2 j) ∧ (¬ z.1 ≤ 0 → ¬ AllL d be ga 6)) := by
  unfold M_laws M_laws_n35
  refine ok_b (M_first_s hT hb hc) (fun z1 e1 => ok_i (fun q => ?_) (fun q => ok_s ⟨FB_up e1.1 (fun h => q ((FB_le0 e1.1 (by omega)).mpr h)) (by omega), fun h => absurd h q, fun _ h => e1.2.2 q (AllL_le h (by omega))⟩))
  obtain ⟨a4, et, ek⟩ := e1.2.1 q
  obtain ⟨z1a, z1b, z1c⟩ := z1
  have et : z1b = lN (tN be ga d) := et
  subst et
  have ek : ∀ j, j < d + 1 → z1c j = lN (kN be ga j) := ek
  have h1 := Lw1.mp (a4 1 (by omega) (by omega))
  have h2 := Lw2.mp (a4 2 (by omega) (by omega))
  have h4 := Lw4'.mp (a4 4 (by omega) (by omega))
  refine ok_b (M_areHalves_s hT hb hc h2 h4 ek) (fun z2 e2 => ok_i (fun q2 => ok_s ⟨FB_at (i := 5) (by omega) (by omega) (fun h => (z01 e2).1 q2 (Lw5.mp h)) (fun j a b => a4 j a (by omega)), fun h => absurd h (show ¬ (5 : Int32) ≤ 0 by decide), fun _ h => (z01 e2).1 q2 (Lw5.mp (h 5 (by omega) (by omega)))⟩) (fun q2 => ?_))
  have a5 := AllL_s a4 (Lw5.mpr ((z01 e2).2 q2))
  refine ok_b (M_findThirds_s hT hb hc h1 h2 h4) (fun z7 e7 => ?_)
  have e7' : (L6 d be ga → z7.1 = 1) ∧ (¬ L6 d be ga → z7.1 = 0) := ⟨fun h => (e7.1 h).1, e7.2⟩
  refine ok_i (fun q3 => ok_s ⟨FB_at (i := 6) (by omega) (by omega) (fun h => (z01 e7').1 q3 (Lw6.mp h)) (fun j a b => a5 j a (by omega)), fun h => absurd h (show ¬ (6 : Int32) ≤ 0 by decide), fun _ h => (z01 e7').1 q3 (Lw6.mp (h 6 (by omega) (by omega)))⟩) (fun q3 => ?_)
  have h6 := (z01 e7').2 q3
  have a6 := AllL_s a5 (Lw6.mpr h6)
  exact ok_s ⟨Or.inl ⟨rfl, a6⟩, fun _ => ⟨a6, rfl, ek, (e7.1 h6).2⟩, fun h => absurd (show (0 : Int32) ≤ 0 by decide) h⟩
end JUDGE
