/-! a plain function comes to an answer with P -/
def Ok {ρ : Type} (o : Option ρ) (P : ρ → Prop) : Prop := ∃ r, o = some r ∧ P r
section OK
variable {ρ α : Type} {P Q : ρ → Prop}
theorem ok_s {r : ρ} (h : P r) : Ok (some r) P := ⟨r, rfl, h⟩
theorem ok_g {b : Bool} {k : Option ρ} (hb : b = true) (h : Ok k P) : Ok (gd b k) P := by rw [gd_t hb]; exact h
theorem ok_b {o : Option α} {k : α → Option ρ} {R : α → Prop} (h : Ok o R) (hk : ∀ a, R a → Ok (k a) P) : Ok (bnd o k) P := by
  obtain ⟨a, e, ha⟩ := h
  rw [bnd_at e]
  exact hk a ha
theorem ok_e {o : Option α} {k : α → Option ρ} {a : α} (h : o = some a) (hk : Ok (k a) P) : Ok (bnd o k) P := by rw [bnd_at h]; exact hk
theorem ok_i {c : Prop} [Decidable c] {a b : Option ρ} (h1 : c → Ok a P) (h2 : ¬ c → Ok b P) : Ok (if c then a else b) P := by
  by_cases h : c
  · rw [if_pos h]; exact h1 h
  · rw [if_neg h]; exact h2 h
theorem ok_t {c : Prop} [Decidable c] {a b : Option ρ} (hc : c) (h : Ok a P) : Ok (if c then a else b) P := by rw [if_pos hc]; exact h
theorem ok_f {c : Prop} [Decidable c] {a b : Option ρ} (hc : ¬ c) (h : Ok b P) : Ok (if c then a else b) P := by rw [if_neg hc]; exact h
theorem ok_l {a : α} {k : α → Option ρ} (h : Ok (k a) P) : Ok (lt a k) P := h
theorem ok_m {o : Option ρ} (h : Ok o Q) (hq : ∀ r, Q r → P r) : Ok o P := by
  obtain ⟨r, e, hr⟩ := h
  exact ⟨r, e, hq r hr⟩
theorem ok_eq {o : Option ρ} {v : ρ} (h : Ok o (fun r => r = v)) : o = some v := by
  obtain ⟨r, e, rfl⟩ := h
  exact e
theorem ok_of {o : Option ρ} {v : ρ} (h : o = some v) (hp : P v) : Ok o P := ⟨v, h, hp⟩
/-- a loop that counts i up to N -/
theorem loop_ok {σ : Type} (L : Nat → σ → Option ρ) (I : Nat → σ → Prop) (N : Nat) (hN : N < FUEL) (step : ∀ i, i < N → ∀ s, I i s → ∀ F, (∀ s', I (i + 1) s' → Ok (L F s') P) → Ok (L (F + 1) s) P) (out : ∀ s, I N s → ∀ F, Ok (L (F + 1) s) P) (i0 : Nat) (h0 : i0 ≤ N) : ∀ s, I i0 s → Ok (L FUEL s) P := by
  have key : ∀ (d i F : Nat), i + d = N → d < F → ∀ s, I i s → Ok (L F s) P := by
    intro d
    induction d with
    | zero =>
      intro i F h1 h2 s hs
      obtain ⟨F, rfl⟩ : ∃ G, F = G + 1 := ⟨F - 1, by omega⟩
      have : i = N := by omega
      subst this
      exact out s hs F
    | succ d ih =>
      intro i F h1 h2 s hs
      obtain ⟨F, rfl⟩ : ∃ G, F = G + 1 := ⟨F - 1, by omega⟩
      exact step i (by omega) s hs F (fun s' hs' => ih (i + 1) F (by omega) (by omega) s' hs')
  intro s hs
  exact key (N - i0) i0 FUEL (by omega) (by omega) s hs
/-- a loop with a measure that falls -/
theorem loop_mu {σ : Type} (L : Nat → σ → Option ρ) (I : σ → Prop) (μ : σ → Nat) (step : ∀ s, I s → ∀ F, (∀ s', I s' → μ s' < μ s → Ok (L F s') P) → Ok (L (F + 1) s) P) : ∀ (F : Nat) (s : σ), I s → μ s < F → Ok (L F s) P := by
  intro F
  induction F with
  | zero => intro s _ h; exact absurd h (Nat.not_lt_zero _)
  | succ F ih =>
    intro s hs hm
    exact step s hs F (fun s' hs' hm' => ih s' hs' (by omega))
end OK
theorem fuel_big {n : Nat} (h : n < 4294967296) : n < FUEL := h
/-! truth as a number -/
def bI (b : Bool) : Int32 := if b then 1 else 0
theorem bI_t : bI true = 1 := rfl
theorem bI_f : bI false = 0 := rfl
theorem bI_eq0 {b : Bool} : bI b = 0 ↔ b = false := by cases b <;> decide
theorem bI_eq1 {b : Bool} : bI b = 1 ↔ b = true := by cases b <;> decide
theorem bI_inj {a b : Bool} : bI a = bI b ↔ a = b := by cases a <;> cases b <;> decide
theorem isb_bI (b : Bool) : isb (bI b) = true := by cases b <;> rfl
theorem isb_0 : isb 0 = true := rfl
theorem isb_1 : isb 1 = true := rfl
/-! compares of longs -/
theorem lgc_lt (x y : Int64) : lg_cmp x y < 0 ↔ x < y := by
  unfold lg_cmp
  by_cases h : y < x
  · rw [if_pos h]
    constructor
    · intro q; exact absurd q (by decide)
    · intro q; exact absurd (Int64.lt_trans h q) (Int64.lt_irrefl)
  · rw [if_neg h]
    by_cases e : x = y
    · rw [if_pos e]; subst e
      constructor
      · intro q; exact absurd q (by decide)
      · intro q; exact absurd q (Int64.lt_irrefl)
    · rw [if_neg e]
      constructor
      · intro _
        rw [fa_lt64]
        rw [fa_lt64] at h
        rw [fa_eq64] at e
        omega
      · intro _; decide
theorem lgc_gt (x y : Int64) : 0 < lg_cmp x y ↔ y < x := by
  unfold lg_cmp
  by_cases h : y < x
  · rw [if_pos h]; exact ⟨fun _ => h, fun _ => by decide⟩
  · rw [if_neg h]
    by_cases e : x = y
    · rw [if_pos e]; exact ⟨fun q => absurd q (by decide), fun q => absurd q h⟩
    · rw [if_neg e]; exact ⟨fun q => absurd q (by decide), fun q => absurd q h⟩
theorem lgc_eq (x y : Int64) : lg_cmp x y = 0 ↔ x = y := by
  unfold lg_cmp
  by_cases h : y < x
  · rw [if_pos h]
    constructor
    · intro q; exact absurd q (by decide)
    · intro q; subst q; exact absurd h (Int64.lt_irrefl)
  · rw [if_neg h]
    by_cases e : x = y
    · rw [if_pos e]; exact ⟨fun _ => e, fun _ => rfl⟩
    · rw [if_neg e]; exact ⟨fun q => absurd q (by decide), fun q => absurd q e⟩
theorem lgc_le (x y : Int64) : lg_cmp x y ≤ 0 ↔ x ≤ y := by
  have h1 := lgc_gt x y
  rw [Int32.le_iff_toInt_le]
  rw [Int32.lt_iff_toInt_lt, fa_lt64] at h1
  rw [fa_le64]
  have z : (0 : Int32).toInt = 0 := rfl
  omega
theorem lgc_ge (x y : Int64) : 0 ≤ lg_cmp x y ↔ y ≤ x := by
  have h1 := lgc_lt x y
  rw [Int32.le_iff_toInt_le]
  rw [Int32.lt_iff_toInt_lt, fa_lt64] at h1
  rw [fa_le64]
  have z : (0 : Int32).toInt = 0 := rfl
  omega
/-! indices -/
theorem inb_iff {x : Int32} {n : Nat} : inb x n = true ↔ vp_in x n := by
  unfold inb vp_in
  exact decide_eq_true_iff
theorem inb_nI {i n : Nat} (h : i < n) (hn : n < 2 ^ 31) : inb (nI i) n = true := inb_iff.mpr (vp_in_nI h hn)
theorem inb_of {x : Int32} {n : Nat} (h : inb x n = true) (hn : n < 2 ^ 31) : ∃ j : Nat, j < n ∧ x = nI j := vp_in_of (inb_iff.mp h) hn
theorem inb_int {x : Int32} {n : Nat} : inb x n = true ↔ 0 ≤ x.toInt ∧ x.toInt < n := by rw [inb_iff, vp_in_iff]
theorem inb_ff {x : Int32} {n : Nat} : inb x n = false ↔ ¬ (0 ≤ x.toInt ∧ x.toInt < n) := by
  rw [← inb_int]; cases inb x n <;> simp
theorem inb_nI_iff {i n : Nat} (hi : i < 2 ^ 31) : inb (nI i) n = decide (i < n) := by
  by_cases h : i < n
  · rw [decide_eq_true h, inb_int, nI_toInt hi]; omega
  · rw [decide_eq_false h, inb_ff, nI_toInt hi]; omega
theorem cl_nI {i : Nat} (h : i < 2 ^ 31) : (nI i).toNatClampNeg = i := nI_clamp h
theorem lit_nI (n : Nat) : (OfNat.ofNat n : Int32) = nI n := rfl
theorem nI_ne {a b : Nat} (ha : a < 2 ^ 31) (hb : b < 2 ^ 31) : ¬ nI a = nI b ↔ a ≠ b := not_congr (nI_eq ha hb)
theorem i32 (p q : Nat) : (32 : Int32) * nI p + nI q = nI (32 * p + q) := by
  rw [show (32 : Int32) = nI 32 from rfl, pk_mul, nI_add]
theorem i32' (p q : Nat) : nI p * (32 : Int32) + nI q = nI (32 * p + q) := by
  rw [show (32 : Int32) = nI 32 from rfl, pk_mul, nI_add, Nat.mul_comm]
theorem updS {f : Nat → Int32} {k : Nat} {x : Int32} : upd f k x k = x := pk_us
theorem updN {f : Nat → Int32} {k j : Nat} {x : Int32} (h : j ≠ k) : upd f k x j = f j := pk_un h
theorem updI (f : Nat → Int32) (k : Nat) (x : Int32) (j : Nat) : upd f k x j = if j = k then x else f j := rfl
/-! the first plain facts -/
theorem M_in_s (x lo hi : Int64) : M_in x lo hi = some (bI (decide (lo ≤ x ∧ x ≤ hi))) := by
  unfold M_in M_in_n17 M_in_n18
  by_cases h1 : x < lo
  · rw [if_pos ((lgc_lt x lo).mpr h1), decide_eq_false (by rw [fa_lt64] at h1; rw [fa_le64]; omega)]; rfl
  · rw [if_neg (fun q => h1 ((lgc_lt x lo).mp q))]
    by_cases h2 : hi < x
    · rw [if_pos ((lgc_gt x hi).mpr h2), decide_eq_false (by rw [fa_lt64] at h2; rw [fa_le64, fa_le64]; omega)]; rfl
    · rw [if_neg (fun q => h2 ((lgc_gt x hi).mp q)), decide_eq_true (by rw [fa_lt64] at h1 h2; rw [fa_le64, fa_le64]; omega)]; rfl
theorem M_inI {x lo hi : Int32} : M_in x.toInt64 lo.toInt64 hi.toInt64 = some (bI (decide (lo ≤ x ∧ x ≤ hi))) := by
  rw [M_in_s]
  simp only [fa_wide_le]
theorem M_isPost_s {x : Int32} {n : Nat} (hn : n < 2 ^ 30) : M_isPost x (nI n) = some (bI (inb x n)) := by
  unfold M_isPost
  have e : M_in x.toInt64 0 (nI n - 1).toInt64 = some (bI (inb x n)) := by
    rw [show (0 : Int64) = (0 : Int32).toInt64 from rfl, M_inI]
    congr 2
    have h1 : (nI n - 1).toInt = (n : Int) - 1 := pk_sub_toInt (a := n) (b := 1) hn (by decide)
    rw [Bool.eq_iff_iff, decide_eq_true_iff, inb_int, Int32.le_iff_toInt_le, Int32.le_iff_toInt_le, h1]
    have z : (0 : Int32).toInt = 0 := rfl
    omega
  rw [bnd_at e, gd_t (isb_bI _)]
theorem Net_has_s {x : Int32} {n : Nat} (hn : n < 2 ^ 31) : Net_has x (nI n) = some (bI (inb x n)) := by
  unfold Net_has Net_has_n16 Net_has_n17
  have z : (0 : Int32).toInt = 0 := rfl
  by_cases h1 : x < 0
  · rw [if_pos h1, show inb x n = false from inb_ff.mpr (by rw [Int32.lt_iff_toInt_lt] at h1; omega)]; rfl
  · rw [if_neg h1]
    by_cases h2 : nI n ≤ x
    · rw [if_pos h2, show inb x n = false from inb_ff.mpr (by rw [Int32.le_iff_toInt_le, nI_toInt hn] at h2; omega)]; rfl
    · rw [if_neg h2, show inb x n = true from inb_int.mpr (by rw [Int32.le_iff_toInt_le, nI_toInt hn] at h2; rw [Int32.lt_iff_toInt_lt] at h1; omega)]; rfl
theorem Net_mayJoin_s {x y : Int32} {n : Nat} (hn : n < 2 ^ 31) : Net_mayJoin x y (nI n) = some (bI (inb x n && inb y n && !decide (x = y))) := by
  unfold Net_mayJoin Net_mayJoin_n25 Net_mayJoin_n26
  rw [bnd_at (Net_has_s hn)]
  cases inb x n
  · rfl
  · rw [if_neg (by decide), bnd_at (Net_has_s hn)]
    cases inb y n
    · rfl
    · rw [if_neg (by decide)]
      by_cases e : x = y
      · rw [if_pos e, decide_eq_true e]; rfl
      · rw [if_neg e, decide_eq_false e]; rfl
/-- bit q of a mask -/
theorem LN_isIn_s (x : Int32) {q : Nat} (hq : q < 32) : LN_isIn x (nI q) = some (bI (bt x q)) := by
  have key : (((x.toUInt32 >>> ((nI q).toUInt32 &&& Int32.toUInt32 31)).toInt32) &&& (1 : Int32)) = bI (bt x q) := by
    apply b_ext
    intro i hi
    rw [b_and, b_ushr q hq]
    have h1 : ∀ i, i < 32 → bt (1 : Int32) i = decide (i = 0) := by decide +kernel
    have h0 : ∀ i, i < 32 → bt (0 : Int32) i = false := by decide +kernel
    rw [h1 i hi]
    by_cases e : i = 0
    · subst e
      rw [Nat.add_zero]
      cases bt x q <;> decide
    · rw [decide_eq_false e, Bool.and_false]
      cases bt x q
      · exact (h0 i hi).symm
      · show false = bt 1 i
        rw [h1 i hi, decide_eq_false e]
  unfold LN_isIn LN_isIn_n13
  rw [key]
  cases bt x q <;> rfl
theorem b_one {q : Nat} (hq : q < 32) {i : Nat} (hi : i < 32) : bt ((1 : Int32) <<< (nI q &&& 31)) i = decide (i = q) := by
  rw [b_shl q hq _ hi]
  have h1 : ∀ i, i < 32 → bt (1 : Int32) i = decide (i = 0) := by decide +kernel
  rw [h1 (i - q) (by omega)]
  by_cases e : i = q
  · subst e; simp
  · by_cases h : q ≤ i
    · have : ¬ i - q = 0 := by omega
      simp [e, this]
    · simp [e, h]
