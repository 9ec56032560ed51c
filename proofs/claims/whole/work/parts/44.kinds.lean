/-! kinds of pairs: numberings of likenesses by first pairs -/
def vd (n a : Nat) : Prop := a < 1024 ∧ a / 32 < n ∧ a % 32 < n
theorem vd_at {n p q : Nat} (hn : n ≤ 32) (hp : p < n) (hq : q < n) : vd n (32 * p + q) := ⟨by omega, by omega, by omega⟩
def Eqv (n : Nat) (E : Nat → Nat → Prop) : Prop := (∀ a, vd n a → E a a) ∧ (∀ a b, vd n a → vd n b → E a b → E b a) ∧ ∀ a b c, vd n a → vd n b → vd n c → E a b → E b c → E a c
noncomputable def eB (n : Nat) (E : Nat → Nat → Prop) (a : Nat) : Nat → Bool := fun b => @decide (vd n b ∧ E a b) (Classical.propDecidable _)
theorem eB_t {n a b : Nat} {E : Nat → Nat → Prop} : eB n E a b = true ↔ vd n b ∧ E a b := by
  unfold eB
  exact @decide_eq_true_iff _ (Classical.propDecidable _)
noncomputable def loE (n : Nat) (E : Nat → Nat → Prop) (a : Nat) : Nat := fa_first (eB n E a) 1024
noncomputable def fsE (n : Nat) (E : Nat → Nat → Prop) : Nat → Bool := fun a => @decide (vd n a ∧ loE n E a = a) (Classical.propDecidable _)
theorem fsE_t {n a : Nat} {E : Nat → Nat → Prop} : fsE n E a = true ↔ vd n a ∧ loE n E a = a := by
  unfold fsE
  exact @decide_eq_true_iff _ (Classical.propDecidable _)
noncomputable def nmE (n : Nat) (E : Nat → Nat → Prop) (a : Nat) : Nat := fb_ct (fsE n E) (loE n E a)
noncomputable def cnE (n : Nat) (E : Nat → Nat → Prop) : Nat := fb_ct (fsE n E) 1024
noncomputable def ktE (n : Nat) (E : Nat → Nat → Prop) (k : Nat) : Nat := kt (fsE n E) 1024 k
section NUM
variable {n : Nat} {E : Nat → Nat → Prop}
theorem lE_le (hE : Eqv n E) {a : Nat} (ha : vd n a) : loE n E a ≤ a := by
  rcases Nat.lt_or_ge a (loE n E a) with g | g
  · have := fa_first_no (eB n E a) 1024 a g
    rw [eB_t.mpr ⟨ha, hE.1 a ha⟩] at this; cases this
  · exact g
theorem lE_is (hE : Eqv n E) {a : Nat} (ha : vd n a) : vd n (loE n E a) ∧ E a (loE n E a) := eB_t.mp (fa_first_yes (eB n E a) 1024 (by have := lE_le hE ha; have := ha.1; unfold loE at *; omega))
theorem lE_eq (hE : Eqv n E) {a b : Nat} (ha : vd n a) (hb : vd n b) (h : E a b) : loE n E a = loE n E b := by
  refine ff_cong (fun k hk => bt_iff ?_)
  rw [eB_t, eB_t]
  constructor
  · rintro ⟨h1, h2⟩; exact ⟨h1, hE.2.2 b a k hb ha h1 (hE.2.1 a b ha hb h) h2⟩
  · rintro ⟨h1, h2⟩; exact ⟨h1, hE.2.2 a b k ha hb h1 h h2⟩
theorem fE_lo (hE : Eqv n E) {a : Nat} (ha : vd n a) : fsE n E (loE n E a) = true := fsE_t.mpr ⟨(lE_is hE ha).1, (lE_eq hE ha (lE_is hE ha).1 (lE_is hE ha).2).symm⟩
theorem nE_lt (hE : Eqv n E) {a : Nat} (ha : vd n a) : nmE n E a < cnE n E := ct_lt (lE_is hE ha).1.1 (fE_lo hE ha)
theorem cnE_le : cnE n E ≤ 1024 := fb_ct_le _ _
theorem kE_nm (hE : Eqv n E) {a : Nat} (ha : vd n a) : ktE n E (nmE n E a) = loE n E a := kt_of (lE_is hE ha).1.1 (fE_lo hE ha)
theorem kE_is {k : Nat} (hk : k < cnE n E) : vd n (ktE n E k) ∧ loE n E (ktE n E k) = ktE n E k ∧ fb_ct (fsE n E) (ktE n E k) = k := by
  obtain ⟨h1, h2, h3⟩ := kt_is hk
  exact ⟨(fsE_t.mp h2).1, (fsE_t.mp h2).2, h3⟩
theorem nE_eq (hE : Eqv n E) {a b : Nat} (ha : vd n a) (hb : vd n b) : nmE n E a = nmE n E b ↔ E a b := by
  constructor
  · intro h
    have h1 := kE_nm hE ha
    have h2 := kE_nm hE hb
    rw [h, h2] at h1
    have g1 := lE_is hE ha
    have g2 := lE_is hE hb
    rw [h1] at g2
    exact hE.2.2 a _ b ha g1.1 hb g1.2 (hE.2.1 b _ hb g1.1 g2.2)
  · intro h
    unfold nmE
    rw [lE_eq hE ha hb h]
/-- the heap k that b is in, among those that began before b -/
theorem kE_match (hE : Eqv n E) {a k : Nat} (ha : vd n a) (hk : k < fb_ct (fsE n E) a) : E (ktE n E k) a ↔ k = nmE n E a := by
  have hk2 : k < cnE n E := Nat.lt_of_lt_of_le hk (fb_ct_mono _ (Nat.le_of_lt ha.1))
  obtain ⟨h1, h2, h3⟩ := kE_is hk2
  constructor
  · intro h
    rw [← nE_eq hE h1 ha] at h
    rw [← h]
    unfold nmE
    rw [h2, h3]
  · intro h
    rw [← nE_eq hE h1 ha, ← h]
    unfold nmE
    rw [h2, h3]
theorem kE_old (hE : Eqv n E) {a : Nat} (ha : vd n a) (h : nmE n E a < fb_ct (fsE n E) a) : fsE n E a = false := by
  cases e : fsE n E a
  · rfl
  · have := (fsE_t.mp e).2
    unfold nmE at h
    rw [this] at h
    omega
theorem kE_new (hE : Eqv n E) {a : Nat} (ha : vd n a) (h : ¬ nmE n E a < fb_ct (fsE n E) a) : fsE n E a = true ∧ nmE n E a = fb_ct (fsE n E) a := by
  have h1 := lE_le hE ha
  have e : loE n E a = a := by
    rcases Nat.lt_or_ge (loE n E a) a with g | g
    · exact absurd (ct_lt g (fE_lo hE ha)) h
    · omega
  refine ⟨fsE_t.mpr ⟨ha, e⟩, ?_⟩
  unfold nmE
  rw [e]
theorem nE_cong {E2 : Nat → Nat → Prop} (h : ∀ a b, vd n a → vd n b → (E a b ↔ E2 a b)) : (∀ a, vd n a → nmE n E a = nmE n E2 a) ∧ cnE n E = cnE n E2 := by
  have hl : ∀ a, vd n a → loE n E a = loE n E2 a := fun a ha => ff_cong (fun k hk => bt_iff (by
    rw [eB_t, eB_t]
    exact ⟨fun g => ⟨g.1, (h a k ha g.1).mp g.2⟩, fun g => ⟨g.1, (h a k ha g.1).mpr g.2⟩⟩))
  have hf : fsE n E = fsE n E2 := funext fun a => bt_iff (by
    rw [fsE_t, fsE_t]
    exact ⟨fun g => ⟨g.1, by rw [← hl a g.1]; exact g.2⟩, fun g => ⟨g.1, by rw [hl a g.1]; exact g.2⟩⟩)
  refine ⟨fun a ha => ?_, ?_⟩
  · unfold nmE
    rw [hl a ha, hf]
  · unfold cnE
    rw [hf]
/-- a finer likeness has no fewer heaps, and as many only if it is the same -/
theorem fE_sub {E2 : Nat → Nat → Prop} (hE : Eqv n E) (hE2 : Eqv n E2) (h : ∀ a b, vd n a → vd n b → E2 a b → E a b) {a : Nat} (hf : fsE n E a = true) : fsE n E2 a = true := by
  obtain ⟨ha, e⟩ := fsE_t.mp hf
  refine fsE_t.mpr ⟨ha, ?_⟩
  have h1 := lE_le hE2 ha
  obtain ⟨h2, h3⟩ := lE_is hE2 ha
  rcases Nat.lt_or_ge (loE n E2 a) a with g | g
  · have := fa_first_no (eB n E a) 1024 (loE n E2 a) (by unfold loE at e ⊢; unfold loE at g; omega)
    rw [eB_t.mpr ⟨h2, h a _ ha h2 h3⟩] at this; cases this
  · omega
theorem cE_le {E2 : Nat → Nat → Prop} (hE : Eqv n E) (hE2 : Eqv n E2) (h : ∀ a b, vd n a → vd n b → E2 a b → E a b) : cnE n E ≤ cnE n E2 := fb_ct_sub (fun a _ hf => fE_sub hE hE2 h hf)
theorem ct_same {P Q : Nat → Bool} : ∀ {m : Nat}, (∀ k, k < m → P k = true → Q k = true) → fb_ct P m = fb_ct Q m → ∀ k, k < m → P k = Q k := by
  intro m
  induction m with
  | zero => intro _ _ k hk; omega
  | succ m ih =>
    intro h e k hk
    have h1 := fb_ct_sub (p := P) (q := Q) (n := m) (fun k hk => h k (by omega))
    rw [fb_ct_succ, fb_ct_succ] at e
    have hm : P m = Q m := by
      cases hp : P m
      · cases hq : Q m
        · rfl
        · rw [hp, hq] at e
          have z1 : (if true = true then 1 else 0 : Nat) = 1 := rfl
          have z2 : (if false = true then 1 else 0 : Nat) = 0 := rfl
          omega
      · rw [h m (by omega) hp]
    rw [hm] at e
    rcases Nat.lt_or_ge k m with g | g
    · exact ih (fun k hk => h k (by omega)) (by omega) k g
    · have : k = m := by omega
      rw [this]; exact hm
theorem cE_same {E2 : Nat → Nat → Prop} (hE : Eqv n E) (hE2 : Eqv n E2) (h : ∀ a b, vd n a → vd n b → E2 a b → E a b) (hc : cnE n E = cnE n E2) : ∀ a b, vd n a → vd n b → (E a b ↔ E2 a b) := by
  intro a b ha hb
  refine ⟨fun hab => ?_, h a b ha hb⟩
  have same := ct_same (fun k hk hf => fE_sub hE hE2 h hf) hc
  have key : ∀ a, vd n a → loE n E a = loE n E2 a := by
    intro a ha
    obtain ⟨h1, h2⟩ := lE_is hE2 ha
    have h3 := fE_lo hE2 ha
    rw [← same _ h1.1] at h3
    have h4 := (fsE_t.mp h3).2
    rw [← h4]
    exact lE_eq hE ha h1 (h a _ ha h1 h2)
  have h1 := lE_eq hE ha hb hab
  rw [key a ha, key b hb] at h1
  obtain ⟨g1, g2⟩ := lE_is hE2 ha
  obtain ⟨g3, g4⟩ := lE_is hE2 hb
  rw [h1] at g2
  exact hE2.2.2 a _ b ha g3 hb g2 (hE2.2.1 b _ hb g3 g4)
end NUM
/-! keys of a pair -/
def ky (s : Nat → Int32) (a x : Nat) : Int32 := s (32 * (a / 32) + x) * 1024 + s (32 * x + a % 32)
def kl (s : Nat → Int32) (n a : Nat) : List Int32 := (List.range n).map (ky s a)
def smK (s : Nat → Int32) (n a b : Nat) : Prop := (kl s n a).Perm (kl s n b)
def stv (k : Int32) : Int64 := (Pr_stir k).getD 0
theorem st_s (k : Int32) : Pr_stir k = some (stv k) := rfl
def suK (s : Nat → Int32) (n a : Nat) : Int64 := (kl s n a).foldl (fun z k => z + stv k) 0
theorem su_same {s : Nat → Int32} {n a b : Nat} (h : smK s n a b) : suK s n a = suK s n b := by
  unfold suK
  exact List.Perm.foldl_eq' h (fun x _ y _ z => by rw [Int64.add_assoc, Int64.add_assoc, Int64.add_comm (stv x)]) 0
def okS (n : Nat) (s : Nat → Int32) : Prop := ∀ a, vd n a → ∃ v, v < 1024 ∧ s a = nI v
theorem ky_nI {n : Nat} {s : Nat → Int32} (hn : n ≤ 32) (h : okS n s) {a x : Nat} (ha : vd n a) (hx : x < n) : ∃ u w, u < 1024 ∧ w < 1024 ∧ s (32 * (a / 32) + x) = nI u ∧ s (32 * x + a % 32) = nI w ∧ ky s a x = nI (1024 * u + w) := by
  obtain ⟨u, h1, h2⟩ := h _ (vd_at hn ha.2.1 hx)
  obtain ⟨w, h3, h4⟩ := h _ (vd_at hn hx ha.2.2)
  refine ⟨u, w, h1, h3, h2, h4, ?_⟩
  unfold ky
  rw [h2, h4, show (1024 : Int32) = nI 1024 from rfl, pk_mul, nI_add, Nat.mul_comm]
/-- what is alike by a finer numbering is alike by a coarser one -/
theorem sm_push {n : Nat} {T K : Nat → Int32} (hn : n ≤ 32) (hT : okS n T) (h : ∀ a b, vd n a → vd n b → T a = T b → K a = K b) {a b : Nat} (ha : vd n a) (hb : vd n b) (hs : smK T n a b) : smK K n a b := by
  obtain ⟨g, hg⟩ : ∃ g : Nat → Int32, ∀ c v, vd n c → T c = nI v → g v = K c := by
    refine ⟨fun v => K (Classical.epsilon (fun c => vd n c ∧ T c = nI v)), fun c v hc hv => ?_⟩
    have := Classical.epsilon_spec (p := fun c => vd n c ∧ T c = nI v) ⟨c, hc, hv⟩
    exact h _ _ this.1 hc (by rw [this.2, hv])
  have key : ∀ a, vd n a → kl K n a = (kl T n a).map (fun k => g (k.toNatClampNeg / 1024) * 1024 + g (k.toNatClampNeg % 1024)) := by
    intro a ha
    unfold kl
    rw [List.map_map]
    refine List.map_congr_left (fun x hx => ?_)
    have hx := List.mem_range.mp hx
    obtain ⟨u, w, h1, h2, h3, h4, h5⟩ := ky_nI hn hT ha hx
    show ky K a x = g ((ky T a x).toNatClampNeg / 1024) * 1024 + g ((ky T a x).toNatClampNeg % 1024)
    rw [h5, cl_nI (by omega), show (1024 * u + w) / 1024 = u by omega, show (1024 * u + w) % 1024 = w by omega, hg _ u (vd_at hn ha.2.1 hx) h3, hg _ w (vd_at hn hx ha.2.2) h4]
    rfl
  unfold smK
  rw [key a ha, key b hb]
  exact List.Perm.map _ hs
/-! the partings -/
def E0 (adj : Nat → Nat → Bool) (a b : Nat) : Prop := (a / 32 = a % 32 ↔ b / 32 = b % 32) ∧ (¬ a / 32 = a % 32 → adj (a / 32) (a % 32) = adj (b / 32) (b % 32))
def Ex (s : Nat → Int32) (n a b : Nat) : Prop := s a = s b ∧ smK s n a b
def Es (s : Nat → Int32) (n a b : Nat) : Prop := s a = s b ∧ suK s n a = suK s n b
theorem Ex_E (s : Nat → Int32) (n : Nat) : Eqv n (Ex s n) := ⟨fun a _ => ⟨rfl, List.Perm.refl _⟩, fun a b _ _ h => ⟨h.1.symm, h.2.symm⟩, fun a b c _ _ _ h1 h2 => ⟨h1.1.trans h2.1, h1.2.trans h2.2⟩⟩
theorem Es_E (s : Nat → Int32) (n : Nat) : Eqv n (Es s n) := ⟨fun a _ => ⟨rfl, rfl⟩, fun a b _ _ h => ⟨h.1.symm, h.2.symm⟩, fun a b c _ _ _ h1 h2 => ⟨h1.1.trans h2.1, h1.2.trans h2.2⟩⟩
theorem E0_E (adj : Nat → Nat → Bool) (n : Nat) : Eqv n (E0 adj) := by
  refine ⟨fun a _ => ⟨Iff.rfl, fun _ => rfl⟩, fun a b _ _ h => ⟨h.1.symm, fun g => (h.2 (fun e => g (h.1.mp e))).symm⟩, fun a b c _ _ _ h1 h2 => ⟨h1.1.trans h2.1, fun g => (h1.2 g).trans (h2.2 (fun e => g (h1.1.mpr e)))⟩⟩
/-- a stable parting -/
def stb (adj : Nat → Nat → Bool) (n : Nat) (T : Nat → Int32) : Prop := okS n T ∧ (∀ a b, vd n a → vd n b → T a = T b → E0 adj a b) ∧ ∀ a b, vd n a → vd n b → T a = T b → smK T n a b
/-- finer than the first parting, and coarser than every stable one -/
def mid (adj : Nat → Nat → Bool) (n : Nat) (K : Nat → Int32) : Prop := okS n K ∧ (∀ a b, vd n a → vd n b → K a = K b → E0 adj a b) ∧ ∀ T, stb adj n T → ∀ a b, vd n a → vd n b → T a = T b → K a = K b
/-- numbered by first pairs -/
def can (n : Nat) (K : Nat → Int32) (c : Nat) (E : Nat → Nat → Prop) : Prop := Eqv n E ∧ (∀ a, vd n a → K a = nI (nmE n E a)) ∧ c = cnE n E
theorem can_ok {n c : Nat} {K : Nat → Int32} {E : Nat → Nat → Prop} (h : can n K c E) : okS n K := fun a ha => ⟨_, Nat.lt_of_lt_of_le (nE_lt h.1 ha) cnE_le, h.2.1 a ha⟩
theorem can_eq {n c : Nat} {K : Nat → Int32} {E : Nat → Nat → Prop} (h : can n K c E) {a b : Nat} (ha : vd n a) (hb : vd n b) : K a = K b ↔ E a b := by
  have h1 := Nat.lt_of_lt_of_le (nE_lt h.1 ha) cnE_le
  have h2 := Nat.lt_of_lt_of_le (nE_lt h.1 hb) cnE_le
  rw [h.2.1 a ha, h.2.1 b hb, nI_eq (by omega) (by omega), nE_eq h.1 ha hb]
theorem mid_x {adj : Nat → Nat → Bool} {n c : Nat} {K K2 : Nat → Int32} (hn : n ≤ 32) (h : mid adj n K) (h2 : can n K2 c (Ex K n)) : mid adj n K2 := by
  refine ⟨can_ok h2, fun a b ha hb e => h.2.1 a b ha hb ((can_eq h2 ha hb).mp e).1, fun T hT a b ha hb e => (can_eq h2 ha hb).mpr ⟨h.2.2 T hT a b ha hb e, ?_⟩⟩
  exact sm_push hn hT.1 (h.2.2 T hT) ha hb (hT.2.2 a b ha hb e)
theorem mid_s {adj : Nat → Nat → Bool} {n c : Nat} {K K2 : Nat → Int32} (hn : n ≤ 32) (h : mid adj n K) (h2 : can n K2 c (Es K n)) : mid adj n K2 := by
  refine ⟨can_ok h2, fun a b ha hb e => h.2.1 a b ha hb ((can_eq h2 ha hb).mp e).1, fun T hT a b ha hb e => (can_eq h2 ha hb).mpr ⟨h.2.2 T hT a b ha hb e, ?_⟩⟩
  exact su_same (sm_push hn hT.1 (h.2.2 T hT) ha hb (hT.2.2 a b ha hb e))
/-- the end of the parting, either way it was come to -/
def fnl (adj : Nat → Nat → Bool) (n : Nat) (K : Nat → Int32) (c : Nat) : Prop := mid adj n K ∧ (∀ a b, vd n a → vd n b → K a = K b → smK K n a b) ∧ ∃ E, can n K c E
theorem fnl_one {adj : Nat → Nat → Bool} {n c d : Nat} {K S : Nat → Int32} (h : fnl adj n K c) (h2 : fnl adj n S d) : c = d ∧ ∀ a, vd n a → K a = S a := by
  obtain ⟨E, hE⟩ := h.2.2
  obtain ⟨E2, hE2⟩ := h2.2.2
  have same : ∀ a b, vd n a → vd n b → (E a b ↔ E2 a b) := by
    intro a b ha hb
    rw [← can_eq hE ha hb, ← can_eq hE2 ha hb]
    exact ⟨h2.1.2.2 K ⟨h.1.1, h.1.2.1, h.2.1⟩ a b ha hb, h.1.2.2 S ⟨h2.1.1, h2.1.2.1, h2.2.1⟩ a b ha hb⟩
  obtain ⟨g1, g2⟩ := nE_cong same
  refine ⟨by rw [hE.2.2, hE2.2.2, g2], fun a ha => ?_⟩
  rw [hE.2.1 a ha, hE2.2.1 a ha, g1 a ha]
/-- as many kinds after a close look as before: the end -/
theorem fnl_x {adj : Nat → Nat → Bool} {n c : Nat} {K K2 : Nat → Int32} {E : Nat → Nat → Prop} (hn : n ≤ 32) (h : mid adj n K) (h1 : can n K c E) (h2 : can n K2 c (Ex K n)) : fnl adj n K2 c := by
  have hc : cnE n E = cnE n (Ex K n) := by rw [← h1.2.2, h2.2.2]
  have same := cE_same h1.1 h2.1 (fun a b ha hb g => (can_eq h1 ha hb).mp g.1) hc
  have eq : ∀ a, vd n a → K2 a = K a := fun a ha => by rw [h1.2.1 a ha, h2.2.1 a ha, (nE_cong same).1 a ha]
  refine ⟨mid_x hn h h2, fun a b ha hb e => ?_, _, h2⟩
  have hx := (can_eq h2 ha hb).mp e
  exact sm_push hn h.1 (fun a b ha hb g => by rw [eq a ha, eq b hb]; exact g) ha hb hx.2
