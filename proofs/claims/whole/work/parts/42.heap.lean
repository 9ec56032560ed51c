/-! the tree that finds perfect heaps, told without either program -/
theorem ff_far {p : Nat → Bool} {n m : Nat} (h : fa_first p n < n) (hm : n ≤ m) : fa_first p m = fa_first p n := by
  have h1 := fa_first_yes p n h
  rcases Nat.lt_or_ge (fa_first p m) (fa_first p n) with c | c
  · have := fa_first_yes p m (by omega)
    rw [fa_first_no p n _ c] at this; cases this
  · rcases Nat.lt_or_ge (fa_first p n) (fa_first p m) with d | d
    · rw [fa_first_no p m _ d] at h1; cases h1
    · omega
theorem ff_none {p : Nat → Bool} {n : Nat} : fa_first p n = n ↔ ∀ k, k < n → p k = false := by
  constructor
  · intro h k hk
    exact fa_first_no p n k (by omega)
  · intro h
    have h1 := fa_first_le p n
    rcases Nat.lt_or_ge (fa_first p n) n with c | c
    · have := fa_first_yes p n c
      rw [h _ c] at this; cases this
    · omega
theorem bt_dec (x : Int32) {i : Nat} (hi : i < 32) : bt (x &&& (x - 1)) i = (bt x i && !decide (i = low x)) := by
  have h1 : bt (x - 1) i = !bt (-x) i := by
    unfold bt
    rw [Int32.toBitVec_sub, Int32.toBitVec_neg, show (1 : Int32).toBitVec = 1#32 from rfl, ← BitVec.not_neg, BitVec.getLsbD_not, decide_eq_true hi]
    rfl
  have h2 := bt_negAnd x hi
  rw [b_and] at h2
  rw [b_and, h1]
  cases h3 : bt x i
  · rfl
  · rw [h3, Bool.true_and] at h2
    rw [h2]
def uN (f : Nat → Nat) (k v : Nat) : Nat → Nat := fun j => if j = k then v else f j
theorem uNs {f : Nat → Nat} {k v : Nat} : uN f k v k = v := if_pos rfl
theorem uNn {f : Nat → Nat} {k v j : Nat} (h : j ≠ k) : uN f k v j = f j := if_neg h
def Cov (B : Nat → Nat → Bool) (T : Nat → Nat) : Nat → Nat → Bool
  | 0, _ => false
  | d + 1, x => Cov B T d x || B (T d) x
theorem Cov_s (B : Nat → Nat → Bool) (T : Nat → Nat) (d x : Nat) : Cov B T (d + 1) x = (Cov B T d x || B (T d) x) := rfl
theorem Cov_up (B : Nat → Nat → Bool) (T : Nat → Nat) (d q : Nat) : ∀ j, j ≤ d → Cov B (uN T d q) j = Cov B T j := by
  intro j
  induction j with
  | zero => intro _; rfl
  | succ j ih =>
    intro hj
    funext x
    rw [Cov_s, Cov_s, ih (by omega), uNn (by omega)]
def unC (n : Nat) (C : Nat → Bool) : Nat := fa_first (fun x => !C x) n
def cnd (n : Nat) (B : Nat → Nat → Bool) (C : Nat → Bool) (q : Nat) : Bool := B (unC n C) q && decide (∀ x, x < n → ¬ (B q x = true ∧ C x = true))
theorem cnd_t {n q : Nat} {B : Nat → Nat → Bool} {C : Nat → Bool} : cnd n B C q = true ↔ B (unC n C) q = true ∧ ∀ x, x < n → ¬ (B q x = true ∧ C x = true) := by
  unfold cnd
  rw [Bool.and_eq_true, decide_eq_true_iff]
def nxt (n : Nat) (B : Nat → Nat → Bool) (C : Nat → Bool) (r : Nat) : Nat := fa_first (fun q => decide (r ≤ q) && cnd n B C q) n
def ab (n : Nat) (B : Nat → Nat → Bool) : Nat → Nat → Nat → (Nat → Nat) → (Nat → Nat) → Option (Int32 × (Nat → Nat))
  | 0, _, _, _, _ => none
  | k + 1, d, c, T, R => if nxt n B (Cov B T d) (R d) = n then (if d = 0 then some (-8, T) else ab n B k (d - 1) c T R) else if c = 20000 then some (-7, T) else if unC n (Cov B (uN T d (nxt n B (Cov B T d) (R d))) (d + 1)) = n then some (nI (d + 1), uN T d (nxt n B (Cov B T d) (R d))) else ab n B k (d + 1) (c + 1) (uN T d (nxt n B (Cov B T d) (R d))) (uN (uN R d (nxt n B (Cov B T d) (R d) + 1)) (d + 1) 0)
theorem ab_s (n : Nat) (B : Nat → Nat → Bool) (k d c : Nat) (T R : Nat → Nat) : ab n B (k + 1) d c T R = if nxt n B (Cov B T d) (R d) = n then (if d = 0 then some (-8, T) else ab n B k (d - 1) c T R) else if c = 20000 then some (-7, T) else if unC n (Cov B (uN T d (nxt n B (Cov B T d) (R d))) (d + 1)) = n then some (nI (d + 1), uN T d (nxt n B (Cov B T d) (R d))) else ab n B k (d + 1) (c + 1) (uN T d (nxt n B (Cov B T d) (R d))) (uN (uN R d (nxt n B (Cov B T d) (R d) + 1)) (d + 1) 0) := rfl
theorem ab_ends (n : Nat) (B : Nat → Nat → Bool) : ∀ (k d c : Nat) (T R : Nat → Nat), c ≤ 20000 → 2 * (20000 - c) + d < k → ∃ out, ab n B k d c T R = some out := by
  intro k
  induction k with
  | zero => intro d c T R _ h; omega
  | succ k ih =>
    intro d c T R hc hk
    rw [ab_s]
    by_cases h1 : nxt n B (Cov B T d) (R d) = n
    · rw [if_pos h1]
      by_cases h2 : d = 0
      · rw [if_pos h2]; exact ⟨_, rfl⟩
      · rw [if_neg h2]; exact ih _ _ _ _ hc (by omega)
    · rw [if_neg h1]
      by_cases h2 : c = 20000
      · rw [if_pos h2]; exact ⟨_, rfl⟩
      · rw [if_neg h2]
        by_cases h3 : unC n (Cov B (uN T d (nxt n B (Cov B T d) (R d))) (d + 1)) = n
        · rw [if_pos h3]; exact ⟨_, rfl⟩
        · rw [if_neg h3]; exact ih _ _ _ _ (by omega) (by omega)
def AI (n : Nat) (B : Nat → Nat → Bool) (d c : Nat) (T R : Nat → Nat) : Prop := c ≤ 20000 ∧ d ≤ c ∧ unC n (Cov B T d) < n ∧ ∀ j, j < d → T j < n ∧ cnd n B (Cov B T j) (T j) = true ∧ R j = T j + 1
def BG (n : Nat) (B : Nat → Nat → Bool) : Prop := n ≤ 32 ∧ (∀ p, p < n → B p p = true) ∧ ∀ p x, p < n → B p x = true → x < n
section TREE
variable {n : Nat} {B : Nat → Nat → Bool}
theorem nxt_le (C : Nat → Bool) (r : Nat) : nxt n B C r ≤ n := fa_first_le _ _
theorem nxt_yes {C : Nat → Bool} {r : Nat} (h : ¬ nxt n B C r = n) : nxt n B C r < n ∧ r ≤ nxt n B C r ∧ cnd n B C (nxt n B C r) = true := by
  have h1 : nxt n B C r < n := by have := nxt_le (n := n) (B := B) C r; omega
  have := fa_first_yes (fun q => decide (r ≤ q) && cnd n B C q) n h1
  rw [Bool.and_eq_true, decide_eq_true_iff] at this
  exact ⟨h1, this⟩
theorem Cov_lt (hG : BG n B) {T : Nat → Nat} {d x : Nat} (hT : ∀ j, j < d → T j < n) (h : Cov B T d x = true) : x < n := by
  induction d with
  | zero => cases h
  | succ d ih =>
    rw [Cov_s, Bool.or_eq_true] at h
    rcases h with h | h
    · exact ih (fun j hj => hT j (by omega)) h
    · exact hG.2.2 _ _ (hT d (by omega)) h
theorem Cov_many (hG : BG n B) {T : Nat → Nat} : ∀ d, (∀ j, j < d → T j < n ∧ cnd n B (Cov B T j) (T j) = true) → d ≤ fb_ct (Cov B T d) n := by
  intro d
  induction d with
  | zero => intro _; exact Nat.zero_le _
  | succ d ih =>
    intro h
    have h1 := ih (fun j hj => h j (by omega))
    obtain ⟨h2, h3⟩ := h d (by omega)
    have h4 : Cov B T d (T d) = false := by
      cases e : Cov B T d (T d)
      · rfl
      · exact absurd ⟨hG.2.1 _ h2, e⟩ ((cnd_t.mp h3).2 (T d) h2)
    have h5 := fb_ct_upd (Cov B T d) true h2
    rw [h4] at h5
    have h6 : fb_ct (fun k => if k = T d then true else Cov B T d k) n ≤ fb_ct (Cov B T (d + 1)) n := by
      refine fb_ct_sub (fun k hk hv => ?_)
      rw [Cov_s, Bool.or_eq_true]
      by_cases e : k = T d
      · rw [e]; exact Or.inr (hG.2.1 _ h2)
      · rw [if_neg e] at hv; exact Or.inl hv
    have z1 : (if true = true then 1 else 0 : Nat) = 1 := rfl
    have z2 : (if false = true then 1 else 0 : Nat) = 0 := rfl
    omega
theorem AI_lt (hG : BG n B) {d c : Nat} {T R : Nat → Nat} (h : AI n B d c T R) : d < n := by
  have h1 := Cov_many hG d (fun j hj => ⟨(h.2.2.2 j hj).1, (h.2.2.2 j hj).2.1⟩)
  have h2 := fb_ct_le (Cov B T d) n
  rcases Nat.lt_or_ge d n with g | g
  · exact g
  · exfalso
    have e : fb_ct (Cov B T d) n = n := by omega
    have hu := fa_first_yes (fun x => !Cov B T d x) n h.2.2.1
    have ha := fb_ct_all.mp e (unC n (Cov B T d)) h.2.2.1
    have hu : (!Cov B T d (unC n (Cov B T d))) = true := hu
    rw [ha] at hu
    cases hu
theorem AI_pop {d c : Nat} {T R : Nat → Nat} (hG : BG n B) (h : AI n B (d + 1) c T R) : AI n B d c T R := by
  refine ⟨h.1, by have := h.2.1; omega, ?_, fun j hj => h.2.2.2 j (by omega)⟩
  have hu := fa_first_yes (fun x => !Cov B T (d + 1) x) n h.2.2.1
  have hl := fa_first_le (fun x => !Cov B T d x) n
  rcases Nat.lt_or_ge (unC n (Cov B T d)) n with g | g
  · exact g
  · exfalso
    have hu : (!Cov B T (d + 1) (unC n (Cov B T (d + 1)))) = true := hu
    have := ff_none.mp (show fa_first (fun x => !Cov B T d x) n = n by unfold unC at g; omega) (unC n (Cov B T (d + 1))) h.2.2.1
    rw [Cov_s] at hu
    have this : (!Cov B T d (unC n (Cov B T (d + 1)))) = false := this
    rw [Bool.not_eq_false'] at this
    rw [this] at hu
    cases hu
theorem AI_push {d c : Nat} {T R : Nat → Nat} (h : AI n B d c T R) (h1 : ¬ nxt n B (Cov B T d) (R d) = n) (h2 : ¬ c = 20000) (h3 : ¬ unC n (Cov B (uN T d (nxt n B (Cov B T d) (R d))) (d + 1)) = n) : AI n B (d + 1) (c + 1) (uN T d (nxt n B (Cov B T d) (R d))) (uN (uN R d (nxt n B (Cov B T d) (R d) + 1)) (d + 1) 0) := by
  obtain ⟨g1, g2, g3⟩ := nxt_yes h1
  have hl := fa_first_le (fun x => !Cov B (uN T d (nxt n B (Cov B T d) (R d))) (d + 1) x) n
  refine ⟨by have := h.1; omega, by have := h.2.1; omega, by unfold unC at h3 ⊢; omega, fun j hj => ?_⟩
  rw [Cov_up B T d _ j (by omega)]
  by_cases e : j = d
  · rw [e, uNs, uNn (by omega), uNs]
    exact ⟨g1, g3, rfl⟩
  · rw [uNn e, uNn (by omega), uNn e]
    exact h.2.2.2 j (by omega)
end TREE
/-! the class's side -/
theorem Se_candidates_s {n : Nat} {x : Int32} {balls : Nat → Int32} {B : Nat → Nat → Bool} {C : Nat → Bool} (hG : BG n B) (hb : ∀ p, p < n → ∀ y, y < 32 → bt (balls p) y = B p y) (hC : ∀ y, y < 32 → bt x y = C y) (hC2 : ∀ y, C y = true → y < n) (hu : unC n C < n) : Ok (Se_candidates x (nI n) balls) (fun m => ∀ q, q < 32 → bt m q = (decide (q < n) && cnd n B C q)) := by
  have hn := hG.1
  unfold Se_candidates
  refine ok_e (LN_lowestBit_s _) ?_
  have hl : low (x ^^^ (-1)) = unC n C := by
    unfold low unC
    rw [ff_cong (q := fun y => !C y) (fun y hy => by rw [b_xor, b_m1 y hy, hC y hy, Bool.xor_true])]
    exact ff_far hu hn
  rw [hl]
  refine ok_t (nI_lt hu (by omega)) ?_
  refine fr2 (fun F m y => Se_candidates_l22 (nI n) balls F x (nI (unC n C)) m y) (fun i m y => y = nI i ∧ ∀ q, q < 32 → bt m q = (decide (q < i) && cnd n B C q)) n (fuel_big (by omega)) ?_ ?_ 0 (Nat.zero_le _) 0 0 ⟨rfl, fun q _ => by rw [b_0, decide_eq_false (by omega)]; rfl⟩
  · rintro i hi m y ⟨rfl, h1⟩ F ih
    rw [Se_candidates_l22_s]
    unfold Se_candidates_n22 Se_candidates_n64
    refine ok_f (nI_ge hi (by omega)) (ok_g (inb_nI (by omega) (by omega)) (ok_e (LN_isIn_s _ (by omega)) ?_))
    rw [cl_nI (by omega), cl_nI (by omega), hb _ hu i (by omega)]
    have no : cnd n B C i = false → ∀ q, q < 32 → bt m q = (decide (q < i + 1) && cnd n B C q) := by
      intro h q hq
      rw [h1 q hq]
      by_cases e : q = i
      · rw [e, h, Bool.and_false, Bool.and_false]
      · rw [show decide (q < i) = decide (q < i + 1) from decide_eq_decide.mpr (by omega)]
    cases hv : B (unC n C) i
    · refine ok_t (by decide) (ih _ _ ⟨nI_1 i, no ?_⟩)
      unfold cnd
      rw [hv]; rfl
    · refine ok_f (by decide) (ok_g (inb_nI (by omega) (by omega)) (ok_i (fun c => ok_l (ih _ _ ⟨nI_1 i, fun q hq => ?_⟩)) (fun c => ih _ _ ⟨nI_1 i, no ?_⟩)))
      · have hc : cnd n B C i = true := cnd_t.mpr ⟨hv, fun y hy g => and0.mp c y (by omega) ⟨by rw [hb i hi y (by omega)]; exact g.1, by rw [hC y (by omega)]; exact g.2⟩⟩
        rw [b_or, h1 q hq, b_one (by omega) hq]
        by_cases e : q = i
        · rw [e, hc, decide_eq_true rfl, decide_eq_true (show i < i + 1 by omega), Bool.or_true]; rfl
        · rw [decide_eq_false e, Bool.or_false, show decide (q < i) = decide (q < i + 1) from decide_eq_decide.mpr (by omega)]
      · refine Bool.eq_false_iff.mpr (fun h => c (and0.mpr (fun y hy g => ?_)))
        rw [hb i hi y hy, hC y hy] at g
        exact (cnd_t.mp h).2 y (hC2 y g.2) g
  · rintro m y ⟨rfl, h1⟩ F
    rw [Se_candidates_l22_s]
    unfold Se_candidates_n22 Se_candidates_n70
    exact ok_t (nI_le (Nat.le_refl n) (by omega)) (ok_s h1)
def hpO (out : Int32 × (Nat → Nat)) (r : Int32) (tk : Nat → Int32) : Prop := r = out.1 ∧ ∀ m, out.1 = nI m → m ≤ 32 → ∀ j, j < m → tk j = nI (out.2 j)
theorem neg_nI {m : Nat} (h : m ≤ 32) : ¬ (-8 : Int32) = nI m ∧ ¬ (-7 : Int32) = nI m := by
  constructor
  · intro e
    have := congrArg Int32.toInt e
    rw [nI_toInt (by omega)] at this
    have z : (-8 : Int32).toInt = -8 := by decide
    omega
  · intro e
    have := congrArg Int32.toInt e
    rw [nI_toInt (by omega)] at this
    have z : (-7 : Int32).toInt = -7 := by decide
    omega
theorem hpO_8 {T : Nat → Nat} {tk : Nat → Int32} : hpO (-8, T) (-8) tk := ⟨rfl, fun m e h => absurd e (neg_nI h).1⟩
theorem hpO_7 {T : Nat → Nat} {tk : Nat → Int32} : hpO (-7, T) (-7) tk := ⟨rfl, fun m e h => absurd e (neg_nI h).2⟩
theorem Se_climb_l {n : Nat} {all : Int32} {balls : Nat → Int32} {B : Nat → Nat → Bool} (hG : BG n B) (hb : ∀ p, p < n → ∀ y, y < 32 → bt (balls p) y = B p y) (hall : ∀ y, y < 32 → bt all y = decide (y < n)) : ∀ (k d c : Nat) (T R : Nat → Nat) (out : Int32 × (Nat → Nat)), ab n B k d c T R = some out → AI n B d c T R → ∀ (F : Nat) (x2 : Int32) (tk ut : Nat → Int32), k < F → (∀ y, y < 32 → bt x2 y = Cov B T d y) → (∀ j, j < d → tk j = nI (T j)) → (∀ j, j ≤ d → ∀ q, q < 32 → bt (ut j) q = (decide (q < n) && (decide (R j ≤ q) && cnd n B (Cov B T j) q))) → Ok (Se_climb_l29 (nI n) balls F all x2 (nI d) (nI c) (nI (2 * c - d)) tk ut) (fun z => hpO out z.1 z.2.1) := by
  have hn := hG.1
  intro k
  induction k with
  | zero => intro d c T R out h; cases h
  | succ k ih =>
    intro d c T R out hab hA F x2 tk ut hF h1 h2 h3
    have hd := AI_lt hG hA
    have hc := hA.1
    have hdc := hA.2.1
    obtain ⟨F, rfl⟩ : ∃ G, F = G + 1 := ⟨F - 1, by omega⟩
    have hlow : low (ut d) = if nxt n B (Cov B T d) (R d) = n then 32 else nxt n B (Cov B T d) (R d) := by
      by_cases e : nxt n B (Cov B T d) (R d) = n
      · rw [if_pos e]
        refine ff_none.mpr (fun q hq => ?_)
        rw [h3 d (Nat.le_refl d) q hq]
        by_cases g : q < n
        · have := ff_none.mp e q g
          rw [this, Bool.and_false]
        · rw [decide_eq_false g]; rfl
      · rw [if_neg e]
        obtain ⟨g1, g2, g3⟩ := nxt_yes e
        unfold low
        have e1 : fa_first (fun q => decide (q < n) && (decide (R d ≤ q) && cnd n B (Cov B T d) q)) n = nxt n B (Cov B T d) (R d) := ff_cong (fun q hq => by rw [decide_eq_true hq]; rfl)
        rw [ff_cong (fun q hq => h3 d (Nat.le_refl d) q hq), ff_far (n := n) (by rw [e1]; exact g1) hn, e1]
    rw [Se_climb_l29_s]
    unfold Se_climb_n29 Se_climb_n167 Se_climb_n49 Se_climb_n82 Se_climb_n148 Se_climb_n161
    rw [cl_nI (by omega)]
    refine ok_f (nI_nlt (a := 40002) (b := 2 * c - d) (by omega) (by decide)) (ok_g (inb_nI (by omega) (by omega)) ?_)
    rw [ab_s] at hab
    by_cases e : nxt n B (Cov B T d) (R d) = n
    · rw [if_pos e] at hab hlow
      refine ok_t ?_ ?_
      · exact bt_ne.mpr (fun q hq => low_no (by omega))
      by_cases e0 : d = 0
      · rw [if_pos e0] at hab
        obtain rfl := Option.some.inj hab
        refine ok_t (by rw [e0]; rfl) (ok_s hpO_8)
      · rw [if_neg e0] at hab
        obtain ⟨d, rfl⟩ : ∃ j, d = j + 1 := ⟨d - 1, by omega⟩
        rw [Nat.add_sub_cancel] at hab
        have hT := hA.2.2.2 d (by omega)
        have em : nI (d + 1) + (-1) = nI d := pk_m1 d
        rw [em, cl_nI (by omega), h2 d (by omega), cl_nI (by omega)]
        refine ok_f (show ¬ nI (d + 1) = 0 from nI_ne0 (by omega) (by omega)) (ok_g (inb_nI (by omega) (by omega)) (ok_g (inb_nI (by omega) (by omega)) (ok_l ?_)))
        rw [nI_1, show 2 * c - (d + 1) + 1 = 2 * c - d by omega]
        refine ih d c T R out hab (AI_pop hG hA) F _ tk ut (by omega) (fun y hy => ?_) (fun j hj => h2 j (by omega)) (fun j hj => h3 j (by omega))
        rw [b_and, b_xor, b_m1 y hy, Bool.xor_true, h1 y hy, hb _ hT.1 y hy, Cov_s]
        cases hv : B (T d) y
        · rw [Bool.or_false, Bool.not_false, Bool.and_true]
        · rw [Bool.not_true, Bool.and_false]
          cases hv2 : Cov B T d y
          · rfl
          · exact absurd ⟨hv, hv2⟩ ((cnd_t.mp hT.2.1).2 y (hG.2.2 _ _ hT.1 hv))
    · rw [if_neg e] at hab hlow
      obtain ⟨g1, g2, g3⟩ := nxt_yes e
      have hne : ¬ ut d = 0 := fun h => by
        have := low_yes (x := ut d) (by omega)
        rw [h, b_0] at this; cases this
      refine ok_f hne ?_
      by_cases e2 : c = 20000
      · rw [if_pos e2] at hab
        obtain rfl := Option.some.inj hab
        exact ok_t (by rw [e2]; rfl) (ok_s hpO_7)
      rw [if_neg e2] at hab
      refine ok_f (show ¬ nI c = 20000 from fun h => e2 ((nI_eq (b := 20000) (by omega) (by decide)).mp h)) (ok_e (LN_lowestBit_s _) ?_)
      rw [hlow]
      refine ok_l (ok_g (inb_nI (by omega) (by omega)) ?_)
      rw [cl_nI (by omega), nI_1, cl_nI (by omega)]
      have hcov : ∀ y, y < 32 → bt (x2 ||| balls (nxt n B (Cov B T d) (R d))) y = Cov B (uN T d (nxt n B (Cov B T d) (R d))) (d + 1) y := by
        intro y hy
        rw [b_or, h1 y hy, hb _ g1 y hy, Cov_s, Cov_up B T d _ d (Nat.le_refl d), uNs]
      have hcl : ∀ y, Cov B (uN T d (nxt n B (Cov B T d) (R d))) (d + 1) y = true → y < n := by
        intro y hy
        refine Cov_lt hG (fun j hj => ?_) hy
        by_cases ej : j = d
        · rw [ej, uNs]; exact g1
        · rw [uNn ej]; exact (hA.2.2.2 j (by omega)).1
      have hdone : x2 ||| balls (nxt n B (Cov B T d) (R d)) = all ↔ unC n (Cov B (uN T d (nxt n B (Cov B T d) (R d))) (d + 1)) = n := by
        constructor
        · intro h
          refine ff_none.mpr (fun y hy => ?_)
          rw [← hcov y (by omega), h, hall y (by omega), decide_eq_true hy]; rfl
        · intro h
          refine b_ext (fun y hy => ?_)
          rw [hcov y hy, hall y hy]
          by_cases g : y < n
          · have := ff_none.mp h y g
            rw [Bool.not_eq_false'] at this
            rw [this, decide_eq_true g]
          · rw [decide_eq_false g]
            exact Bool.eq_false_iff.mpr (fun h => g (hcl y h))
      have hout : unC n (Cov B (uN T d (nxt n B (Cov B T d) (R d))) (d + 1)) = n → hpO out (nI (d + 1)) (upd tk d (nI (nxt n B (Cov B T d) (R d)))) := by
        intro h
        rw [if_pos h] at hab
        obtain rfl := Option.some.inj hab
        refine ⟨rfl, fun m em hm j hj => ?_⟩
        have em := (nI_eq (by omega) (by omega)).mp em
        show _ = nI (uN T d _ j)
        by_cases ej : j = d
        · rw [ej, updS, uNs]
        · rw [updN ej, uNn ej]; exact h2 j (by omega)
      refine ok_i (fun cc => ok_s (hout (hdone.mp cc))) (fun cc => ?_)
      have hnd : ¬ unC n (Cov B (uN T d (nxt n B (Cov B T d) (R d))) (d + 1)) = n := fun h => cc (hdone.mpr h)
      have hA2 := AI_push hA e e2 hnd
      have hd2 := AI_lt hG hA2
      rw [if_neg hnd] at hab
      refine ok_f (show ¬ nI (d + 1) = 32 from fun h => by have := (nI_eq (b := 32) (by omega) (by decide)).mp h; omega) (ok_b (Se_candidates_s hG hb hcov hcl hA2.2.2.1) (fun m hm => ok_g (inb_nI (by omega) (by omega)) ?_))
      rw [nI_1, nI_1, show 2 * c - d + 1 = 2 * (c + 1) - (d + 1) by omega]
      refine ih (d + 1) (c + 1) _ _ out hab hA2 F _ _ _ (by omega) hcov (fun j hj => ?_) (fun j hj q hq => ?_)
      · by_cases ej : j = d
        · rw [ej, updS, uNs]
        · rw [updN ej, uNn ej]; exact h2 j (by omega)
      · by_cases ej : j = d + 1
        · rw [ej, updS, hm q hq, uNs, decide_eq_true (Nat.zero_le q)]; rfl
        · rw [updN ej, uNn ej, Cov_up B T d _ j (by omega)]
          by_cases ej2 : j = d
          · rw [ej2, updS, uNs, bt_dec _ hq, h3 d (Nat.le_refl d) q hq, hlow]
            by_cases gq : q = nxt n B (Cov B T d) (R d)
            · rw [decide_eq_true gq, Bool.not_true, Bool.and_false, decide_eq_false (show ¬ nxt n B (Cov B T d) (R d) + 1 ≤ q by omega), Bool.false_and, Bool.and_false]
            · rw [decide_eq_false gq, Bool.not_false, Bool.and_true]
              by_cases gl : nxt n B (Cov B T d) (R d) < q
              · rw [decide_eq_true (show R d ≤ q by omega), decide_eq_true (show nxt n B (Cov B T d) (R d) + 1 ≤ q by omega)]
              · rw [decide_eq_false (show ¬ nxt n B (Cov B T d) (R d) + 1 ≤ q by omega), Bool.false_and, Bool.and_false]
                have := fa_first_no (fun q => decide (R d ≤ q) && cnd n B (Cov B T d) q) n q (by unfold nxt at gq gl; omega)
                rw [this, Bool.and_false]
          · rw [updN ej2, uNn ej2]; exact h3 j (by omega) q hq
