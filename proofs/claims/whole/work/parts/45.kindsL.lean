/-! rows in order -/
theorem rg_split {α : Type} (f : Nat → α) (k : Nat) : ∀ d, (List.range (k + d)).map f = (List.range k).map f ++ (List.range d).map (fun i => f (k + i)) := by
  intro d
  induction d with
  | zero => simp
  | succ d ih =>
    rw [← Nat.add_assoc, List.range_succ, List.map_append, ih, List.range_succ, List.map_append, List.append_assoc]
    rfl
def insF (a : Nat → Int32) (k : Nat) (v : Int32) : Nat → Int32 := fun j => if j < k then a j else if j = k then v else a (j - 1)
theorem ins_perm {a : Nat → Int32} {k x : Nat} {v : Int32} (hk : k ≤ x) : ((List.range (x + 1)).map (insF a k v)).Perm (v :: (List.range x).map a) := by
  obtain ⟨d, rfl⟩ : ∃ d, x = k + d := ⟨x - k, by omega⟩
  rw [rg_split a k d]
  have e1 : (List.range (k + (1 + d))).map (insF a k v) = (List.range k).map a ++ (v :: (List.range d).map (fun i => a (k + i))) := by
    rw [rg_split (insF a k v) k (1 + d), rg_split (fun i => insF a k v (k + i)) 1 d]
    have a1 : (List.range k).map (insF a k v) = (List.range k).map a := List.map_congr_left (fun j hj => if_pos (List.mem_range.mp hj))
    have a2 : (List.range d).map (fun i => insF a k v (k + (1 + i))) = (List.range d).map (fun i => a (k + i)) := List.map_congr_left (fun j _ => by
      unfold insF
      rw [if_neg (by omega), if_neg (by omega), show k + (1 + j) - 1 = k + j by omega])
    rw [a1, a2]
    have a3 : insF a k v (k + 0) = v := by
      unfold insF
      rw [if_neg (by omega), if_pos (by omega)]
    show _ ++ ([insF a k v (k + 0)] ++ _) = _
    rw [a3]
    rfl
  rw [show k + d + 1 = k + (1 + d) by omega, e1]
  exact List.perm_middle
theorem ins_sort {a : Nat → Int32} {k x : Nat} {v : Int32} (hk : k ≤ x) (h1 : ∀ i j, i < j → j < x → a i ≤ a j) (h2 : ∀ j, j < k → a j ≤ v) (h3 : ∀ j, k ≤ j → j < x → v ≤ a j) : ∀ i j, i < j → j < x + 1 → insF a k v i ≤ insF a k v j := by
  intro i j hij hj
  unfold insF
  by_cases c1 : i < k
  · rw [if_pos c1]
    by_cases c2 : j < k
    · rw [if_pos c2]; exact h1 i j hij (by omega)
    · rw [if_neg c2]
      by_cases c3 : j = k
      · rw [if_pos c3]; exact h2 i c1
      · rw [if_neg c3]
        by_cases c4 : i = j - 1
        · rw [c4, fa_le]; omega
        · exact h1 i (j - 1) (by omega) (by omega)
  · rw [if_neg c1, if_neg (show ¬ j < k by omega), if_neg (show ¬ j = k by omega)]
    by_cases c3 : i = k
    · rw [if_pos c3]; exact h3 (j - 1) (by omega) (by omega)
    · rw [if_neg c3]; exact h1 (i - 1) (j - 1) (by omega) (by omega)
theorem pw_row {f : Nat → Int32} : ∀ {x : Nat}, (∀ i j, i < j → j < x → f i ≤ f j) → List.Pairwise (fun a b : Int32 => a ≤ b) ((List.range x).map f) := by
  intro x
  induction x with
  | zero => intro _; exact List.Pairwise.nil
  | succ x ih =>
    intro h
    rw [List.range_succ, List.map_append, List.pairwise_append]
    refine ⟨ih (fun i j hij hj => h i j hij (by omega)), List.pairwise_singleton _ _, fun u hu w hw => ?_⟩
    obtain ⟨i, hi, rfl⟩ := List.mem_map.mp hu
    obtain ⟨j, hj, rfl⟩ := List.mem_map.mp hw
    have hi := List.mem_range.mp hi
    have hj := List.mem_singleton.mp hj
    rw [hj]
    exact h i x hi (by omega)
/-- rows in order that hold the same keys are the same -/
theorem row_same {f g : Nat → Int32} {n : Nat} (h1 : ∀ i j, i < j → j < n → f i ≤ f j) (h2 : ∀ i j, i < j → j < n → g i ≤ g j) (hp : ((List.range n).map f).Perm ((List.range n).map g)) : ∀ x, x < n → f x = g x := by
  have e := List.Perm.eq_of_pairwise (le := fun a b : Int32 => a ≤ b) (fun a b _ _ x y => Int32.le_antisymm x y) (pw_row h1) (pw_row h2) hp
  intro x hx
  have := congrArg (fun l : List Int32 => l[x]?) e
  simp [hx] at this
  exact this
theorem row_perm {f g : Nat → Int32} {n : Nat} (h : ∀ x, x < n → f x = g x) : ((List.range n).map f).Perm ((List.range n).map g) := by
  rw [List.map_congr_left (fun x hx => h x (List.mem_range.mp hx))]
/-! the class's keys -/
theorem Pr_keyOf_s {p q x : Nat} (hp : p < 32) (hq : q < 32) (hx : x < 32) (s : Nat → Int32) : Pr_keyOf (nI p) (nI x) (nI q) s = some (ky s (32 * p + q) x) := by
  unfold Pr_keyOf ky
  rw [i32', i32', gd_t (inb_nI (by omega) (by omega)), gd_t (inb_nI (by omega) (by omega)), cl_nI (by omega), cl_nI (by omega), show (32 * p + q) / 32 = p by omega, show (32 * p + q) % 32 = q by omega]
theorem Pr_gather_s {n a : Nat} {r s : Nat → Int32} (hn : n ≤ 32) (ha : vd n a) : Ok (Pr_gather (nI a) 32 (nI n) r s) (fun w => (∀ i j, i < j → j < n → w i ≤ w j) ∧ ((List.range n).map w).Perm (kl s n a)) := by
  have h1 := ha.1
  have h2 := ha.2.1
  have h3 := ha.2.2
  unfold Pr_gather
  rw [show (32 : Int32) = nI 32 from rfl, pk_rem (by omega) (by omega) (by omega), pk_div (by omega) (by omega) (by omega)]
  refine ok_l ?_
  refine fr2 (fun F x w => Pr_gather_l14 32 (nI n) s F (nI (a / 32)) (nI (a % 32)) x w) (fun i x w => x = nI i ∧ (∀ u v, u < v → v < i → w u ≤ w v) ∧ ((List.range i).map w).Perm (kl s i a)) n (fuel_big (by omega)) ?_ ?_ 0 (Nat.zero_le _) 0 r ⟨rfl, fun u v h1 h2 => by omega, List.Perm.refl _⟩
  · rintro x hx y w ⟨rfl, g1, g2⟩ F ih
    rw [Pr_gather_l14_s]
    unfold Pr_gather_n14
    refine ok_f (nI_ge hx (by omega)) (ok_e (Pr_keyOf_s (by omega) (by omega) (by omega) s) ?_)
    rw [show 32 * (a / 32) + a % 32 = a by omega]
    have fin : ∀ k, k ≤ x → ∀ r1 : Nat → Int32, (∀ j, j < k → r1 j = w j) → (∀ j, k < j → j ≤ x → r1 j = w (j - 1)) → (∀ j, k ≤ j → j < x → ky s a x ≤ w j) → (∀ j, j < k → w j ≤ ky s a x) → Ok (Pr_gather_n70 (fun x3 x4 x5 r1 => Pr_gather_l14 32 (nI n) s F x3 x4 x5 r1) 32 (nI (a / 32)) (nI (a % 32)) (nI x) (ky s a x) (nI k) r1) (fun w => (∀ i j, i < j → j < n → w i ≤ w j) ∧ ((List.range n).map w).Perm (kl s n a)) := by
      intro k hk r1 e1 e2 e3 e4
      unfold Pr_gather_n70
      rw [cl_nI (by omega)]
      have er : ∀ j, j < x + 1 → upd r1 k (ky s a x) j = insF w k (ky s a x) j := by
        intro j hj
        unfold insF
        by_cases c : j = k
        · rw [c, updS, if_neg (by omega), if_pos rfl]
        · rw [updN c]
          by_cases c2 : j < k
          · rw [if_pos c2]; exact e1 j c2
          · rw [if_neg c2, if_neg c]; exact e2 j (by omega) (by omega)
      refine ok_g (inb_nI (by omega) (by omega)) (ih _ _ ⟨nI_1 x, fun u v huv hv => ?_, ?_⟩)
      · rw [er u (by omega), er v hv]
        exact ins_sort hk g1 e4 e3 u v huv hv
      · refine (row_perm er).trans ((ins_perm hk).trans ?_)
        unfold kl
        rw [List.range_succ, List.map_append]
        exact (List.Perm.cons _ g2).trans (List.perm_append_singleton _ _).symm
    have step := fmu2 (P := fun w => (∀ i j, i < j → j < n → w i ≤ w j) ∧ ((List.range n).map w).Perm (kl s n a)) (fun G y r1 => Pr_gather_l38 (fun x3 x4 x5 r1 => Pr_gather_l14 32 (nI n) s F x3 x4 x5 r1) 32 G (nI (a / 32)) (nI (a % 32)) (nI x) (ky s a x) y r1) (fun y r1 => ∃ k, y = nI k ∧ k ≤ x ∧ (∀ j, j < k → r1 j = w j) ∧ (∀ j, k < j → j ≤ x → r1 j = w (j - 1)) ∧ ∀ j, k ≤ j → j < x → ky s a x ≤ w j) (fun y _ => y.toNatClampNeg) (by
      rintro y r1 ⟨k, rfl, hk, e1, e2, e3⟩ G ih2
      show Ok (Pr_gather_l38 _ 32 (G + 1) (nI (a / 32)) (nI (a % 32)) (nI x) (ky s a x) (nI k) r1) _
      rw [Pr_gather_l38_s]
      unfold Pr_gather_n38
      refine ok_i (fun c => ?_) (fun c => ?_)
      · have c : k = 0 := Nat.le_zero.mp ((nI_leI (b := 0) (by omega) (by decide)).mp c)
        subst c
        exact fin 0 (by omega) r1 e1 e2 e3 (fun j hj => by omega)
      · obtain ⟨k, rfl⟩ : ∃ j, k = j + 1 := ⟨k - 1, by
          have : ¬ k = 0 := fun h => c (by rw [h]; decide)
          omega⟩
        rw [nI_pred, cl_nI (by omega), cl_nI (by omega), e1 k (by omega)]
        refine ok_g (inb_nI (by omega) (by omega)) (ok_i (fun c2 => ?_) (fun c2 => ok_g (inb_nI (by omega) (by omega)) ?_))
        · refine fin (k + 1) hk r1 e1 e2 e3 (fun j hj => ?_)
          by_cases ej : j = k
          · rw [ej]; exact c2
          · exact Int32.le_trans (g1 j k (by omega) (by omega)) c2
        · rw [pk_m1]
          refine ih2 _ _ ⟨k, rfl, by omega, fun j hj => by rw [updN (by omega)]; exact e1 j (by omega), fun j hj hj2 => ?_, fun j hj hj2 => ?_⟩ (by rw [cl_nI (by omega), cl_nI (by omega)]; omega)
          · by_cases ej : j = k + 1
            · rw [ej, updS]; rfl
            · rw [updN ej]; exact e2 j (by omega) hj2
          · by_cases ej : j = k
            · rw [ej, fa_le]; rw [fa_le] at c2; omega
            · exact e3 j (by omega) hj2) FUEL (nI x) w ⟨x, rfl, Nat.le_refl x, fun j _ => rfl, fun j h1 h2 => by omega, fun j h1 h2 => by omega⟩ (by rw [cl_nI (by omega)]; exact fuel_big (by omega))
    exact step
  · rintro y w ⟨rfl, g1, g2⟩ F
    rw [Pr_gather_l14_s]
    unfold Pr_gather_n14 Pr_gather_n82
    exact ok_t (nI_le (Nat.le_refl n) (by omega)) (ok_s ⟨g1, g2⟩)
theorem Pr_isAlike_s {n a b : Nat} {ke oke s : Nat → Int32} (hn : n ≤ 32) (ha : vd n a) (hb : vd n b) : Ok (Pr_isAlike (nI a) (nI b) (nI n) ke oke s) (fun z => (z.1 = 1 ∧ smK s n a b) ∨ (z.1 = 0 ∧ ¬ smK s n a b)) := by
  unfold Pr_isAlike
  refine ok_b (Pr_gather_s hn ha) (fun r1 h1 => ok_b (Pr_gather_s hn hb) (fun r2 h2 => ?_))
  refine fr1 (fun F x => Pr_isAlike_l20 (nI n) F x r1 r2) (fun i x => x = nI i ∧ ∀ j, j < i → r1 j = r2 j) n (fuel_big (by omega)) ?_ ?_ 0 (Nat.zero_le _) 0 ⟨rfl, all_none⟩
  · rintro i hi x ⟨rfl, g1⟩ F ih
    rw [Pr_isAlike_l20_s]
    unfold Pr_isAlike_n20 Pr_isAlike_n43
    rw [cl_nI (by omega)]
    refine ok_f (nI_ge hi (by omega)) (ok_g (inb_nI (by omega) (by omega)) (ok_i (fun c => ih _ ⟨nI_1 i, all_next.mpr ⟨g1, c⟩⟩) (fun c => ok_s (Or.inr ⟨rfl, fun hs => c ?_⟩))))
    exact row_same h1.1 h2.1 (h1.2.trans (List.Perm.trans hs h2.2.symm)) i hi
  · rintro x ⟨rfl, g1⟩ F
    rw [Pr_isAlike_l20_s]
    unfold Pr_isAlike_n20 Pr_isAlike_n51
    exact ok_t (nI_le (Nat.le_refl n) (by omega)) (ok_s (Or.inl ⟨rfl, h1.2.symm.trans ((row_perm g1).trans h2.2)⟩))
theorem Pr_sumOf_s {n p q : Nat} {s : Nat → Int32} (hn : n ≤ 32) (hp : p < n) (hq : q < n) : Pr_sumOf (nI p) (nI q) (nI n) s = some (suK s n (32 * p + q)) := by
  unfold Pr_sumOf
  apply ok_eq
  refine fr2 (fun F z x => Pr_sumOf_l5 (nI n) s F (nI p) (nI q) z x) (fun i z x => x = nI i ∧ z = suK s i (32 * p + q)) n (fuel_big (by omega)) ?_ ?_ 0 (Nat.zero_le _) 0 0 ⟨rfl, rfl⟩
  · rintro i hi z x ⟨rfl, rfl⟩ F ih
    rw [Pr_sumOf_l5_s]
    unfold Pr_sumOf_n5
    refine ok_f (nI_ge hi (by omega)) (ok_e (Pr_keyOf_s (by omega) (by omega) (by omega) s) (ok_e (st_s _) (ih _ _ ⟨nI_1 i, ?_⟩)))
    unfold suK kl
    rw [List.range_succ, List.map_append, List.foldl_append]
    rfl
  · rintro z x ⟨rfl, rfl⟩ F
    rw [Pr_sumOf_l5_s]
    unfold Pr_sumOf_n5 Pr_sumOf_n34
    exact ok_t (nI_le (Nat.le_refl n) (by omega)) (ok_s rfl)
/-! the chains -/
def pv (P : Nat → Bool) : Nat → Int32
  | 0 => -1
  | k + 1 => if P k = true then nI k else pv P k
theorem pv_cases {P : Nat → Bool} : ∀ j, (pv P j = -1 ∧ ∀ k, k < j → P k = false) ∨ ∃ k, k < j ∧ P k = true ∧ pv P j = nI k ∧ ∀ i, k < i → i < j → P i = false := by
  intro j
  induction j with
  | zero => exact Or.inl ⟨rfl, all_none⟩
  | succ j ih =>
    by_cases h : P j = true
    · refine Or.inr ⟨j, by omega, h, ?_, fun i h1 h2 => by omega⟩
      show (if P j = true then nI j else pv P j) = nI j
      rw [if_pos h]
    · have e : pv P (j + 1) = pv P j := by
        show (if P j = true then nI j else pv P j) = pv P j
        rw [if_neg h]
      have hf : P j = false := Bool.eq_false_iff.mpr h
      rw [e]
      rcases ih with ⟨h1, h2⟩ | ⟨k, h1, h2, h3, h4⟩
      · exact Or.inl ⟨h1, all_next.mpr ⟨h2, hf⟩⟩
      · refine Or.inr ⟨k, by omega, h2, h3, fun i g1 g2 => ?_⟩
        by_cases ei : i = j
        · rw [ei]; exact hf
        · exact h4 i g1 (by omega)
theorem pv_cong {P Q : Nat → Bool} : ∀ {j : Nat}, (∀ k, k < j → P k = Q k) → pv P j = pv Q j := by
  intro j
  induction j with
  | zero => intro _; rfl
  | succ j ih =>
    intro h
    show (if P j = true then nI j else pv P j) = (if Q j = true then nI j else pv Q j)
    rw [h j (by omega), ih (fun k hk => h k (by omega))]
noncomputable def sB (s : Nat → Int32) (n : Nat) (E : Nat → Nat → Prop) (v : Int32) : Nat → Bool := fun j => decide (s (ktE n E j) = v)
theorem sB_t {s : Nat → Int32} {n j : Nat} {E : Nat → Nat → Prop} {v : Int32} : sB s n E v j = true ↔ s (ktE n E j) = v := by
  unfold sB
  exact decide_eq_true_iff
def RS (n : Nat) (s : Nat → Int32) (E : Nat → Nat → Prop) (c : Nat) (fi he ne : Nat → Int32) (su : Nat → Int64) : Prop := (∀ k, k < c → fi k = nI (ktE n E k) ∧ su k = suK s n (ktE n E k) ∧ ne k = pv (sB s n E (s (ktE n E k))) k) ∧ ∀ v, v < 1024 → he v = pv (sB s n E (nI v)) c
def Ec (cl : Bool) (s : Nat → Int32) (n : Nat) : Nat → Nat → Prop := if cl = true then Ex s n else Es s n
theorem Ec_E (cl : Bool) (s : Nat → Int32) (n : Nat) : Eqv n (Ec cl s n) := by
  unfold Ec
  cases cl
  · exact Es_E s n
  · exact Ex_E s n
theorem Ec_s {cl : Bool} {s : Nat → Int32} {n a b : Nat} (h : Ec cl s n a b) : s a = s b ∧ suK s n a = suK s n b := by
  unfold Ec at h
  cases cl
  · exact h
  · exact ⟨h.1, su_same h.2⟩
theorem Pr_match_s {n a c : Nat} {cl : Bool} {fi he ke ne oke s : Nat → Int32} {su : Nat → Int64} (hn : n ≤ 32) (ha : vd n a) (hs : okS n s) (hc : c ≤ fb_ct (fsE n (Ec cl s n)) a) (hR : RS n s (Ec cl s n) c fi he ne su) : Ok (Pr_match (nI a) (suK s n a) (bI cl) (nI n) fi he ke ne oke s su) (fun z => (∃ k, k < c ∧ Ec cl s n (ktE n (Ec cl s n) k) a ∧ z.1 = nI k) ∨ ((∀ k, k < c → ¬ Ec cl s n (ktE n (Ec cl s n) k) a) ∧ z.1 = -1)) := by
  obtain ⟨E, hE⟩ : ∃ E, E = Ec cl s n := ⟨_, rfl⟩
  rw [← hE] at hc hR ⊢
  have hEs : ∀ a b, E a b → s a = s b ∧ suK s n a = suK s n b := fun a b h => by rw [hE] at h; exact Ec_s h
  have hE0 : cl = false → ∀ a b, s a = s b → suK s n a = suK s n b → E a b := by
    intro h a b h1 h2
    rw [hE, h]
    exact ⟨h1, h2⟩
  have hE1 : cl = true → ∀ a b, (E a b ↔ (s a = s b ∧ smK s n a b)) := by
    intro h a b
    rw [hE, h]
    exact Iff.rfl
  clear hE
  have h1024 := ha.1
  have hca : c ≤ a := Nat.le_trans hc (fb_ct_le _ _)
  obtain ⟨v, hv, ev⟩ := hs a ha
  have hkv : ∀ k, k < c → vd n (ktE n E k) := fun k hk => (kE_is (Nat.lt_of_lt_of_le hk (Nat.le_trans hc (fb_ct_mono _ (Nat.le_of_lt h1024))))).1
  unfold Pr_match
  rw [cl_nI (by omega), ev, cl_nI (by omega), hR.2 v hv]
  refine ok_g (inb_nI (by omega) (by omega)) (ok_g (inb_nI (by omega) (by omega)) ?_)
  have main : ∀ (m j t F : Nat) (ke oke : Nat → Int32), j ≤ m → j ≤ c → t + j ≤ c → j < F → (∀ k, j ≤ k → k < c → ¬ E (ktE n E k) a) → Ok (Pr_match_l16 (nI n) fi ne s su F (nI a) (suK s n a) (bI cl) (pv (sB s n E (nI v)) j) (nI t) ke oke) (fun z => (∃ k, k < c ∧ E (ktE n E k) a ∧ z.1 = nI k) ∨ ((∀ k, k < c → ¬ E (ktE n E k) a) ∧ z.1 = -1)) := by
    intro m
    induction m with
    | zero =>
      intro j t F ke oke hm hj ht hF hno
      obtain ⟨F, rfl⟩ : ∃ G, F = G + 1 := ⟨F - 1, by omega⟩
      obtain rfl : j = 0 := by omega
      rw [Pr_match_l16_s]
      unfold Pr_match_n16 Pr_match_n79
      exact ok_i (fun _ => ok_s (Or.inr ⟨fun k hk => hno k (by omega) hk, rfl⟩)) (fun _ => ok_t (by show (-1 : Int32) < 0; decide) (ok_s (Or.inr ⟨fun k hk => hno k (by omega) hk, rfl⟩)))
    | succ m ih =>
      intro j t F ke oke hm hj ht hF hno
      obtain ⟨F, rfl⟩ : ∃ G, F = G + 1 := ⟨F - 1, by omega⟩
      rw [Pr_match_l16_s]
      unfold Pr_match_n16 Pr_match_n79 Pr_match_n64 Pr_match_n61
      rcases pv_cases (P := sB s n E (nI v)) j with ⟨e, h1⟩ | ⟨k, h1, h2, e, h3⟩
      · rw [e]
        have none : ∀ k, k < c → ¬ E (ktE n E k) a := by
          intro k hk hE2
          rcases Nat.lt_or_ge k j with g | g
          · have := h1 k g
            rw [sB_t.mpr (by rw [← ev]; exact (hEs _ _ hE2).1)] at this
            cases this
          · exact hno k g hk hE2
        exact ok_i (fun _ => ok_s (Or.inr ⟨none, rfl⟩)) (fun _ => ok_t (by decide) (ok_s (Or.inr ⟨none, rfl⟩)))
      · rw [e]
        have hk : k < c := by omega
        obtain ⟨r1, r2, r3⟩ := hR.1 k hk
        have hsk := sB_t.mp h2
        rw [cl_nI (by omega), r1, r2, r3, hsk]
        have rest : ∀ k2, k ≤ k2 → k2 < c → ¬ E (ktE n E k) a → ¬ E (ktE n E k2) a := by
          intro k2 g1 g2 g3 g4
          rcases Nat.lt_or_ge k2 j with g | g
          · by_cases ek : k2 = k
            · rw [ek] at g4; exact g3 g4
            · have := h3 k2 (by omega) g
              rw [sB_t.mpr (by rw [← ev]; exact (hEs _ _ g4).1)] at this
              cases this
          · exact hno k2 g g2 g4
        have go : ∀ ke oke : Nat → Int32, ¬ E (ktE n E k) a → Ok (gd (inb (nI k) 1024) <| Pr_match_l16 (nI n) fi ne s su F (nI a) (suK s n a) (bI cl) (pv (sB s n E (nI v)) k) (nI t + 1) ke oke) (fun z => (∃ k, k < c ∧ E (ktE n E k) a ∧ z.1 = nI k) ∨ ((∀ k, k < c → ¬ E (ktE n E k) a) ∧ z.1 = -1)) := by
          intro ke oke hn2
          rw [nI_1]
          exact ok_g (inb_nI (by omega) (by omega)) (ih k (t + 1) F ke oke (by omega) (by omega) (by omega) (by omega) (fun k2 g1 g2 => rest k2 g1 g2 hn2))
        refine ok_f (nI_ge (b := 1024) (by omega) (by decide)) (ok_f (nI_pos (by omega)) (ok_g (inb_nI (by omega) (by omega)) (ok_i (fun c1 => ?_) (fun c1 => go _ _ (fun h => c1 ((lgc_eq _ _).mpr (hEs _ _ h).2))))))
        have c1 := (lgc_eq _ _).mp c1
        cases cl
        · exact ok_t rfl (ok_s (Or.inl ⟨k, hk, hE0 rfl _ _ (by rw [hsk, ev]) c1, rfl⟩))
        · refine ok_f bI_n0 (ok_b (Pr_isAlike_s hn ha (hkv k hk)) (fun z hz => ?_))
          rcases hz with ⟨z1, z2⟩ | ⟨z1, z2⟩
          · rw [z1]
            exact ok_f (by decide) (ok_s (Or.inl ⟨k, hk, (hE1 rfl _ _).mpr ⟨by rw [hsk, ev], List.Perm.symm z2⟩, rfl⟩))
          · rw [z1]
            exact ok_t rfl (go _ _ (fun h => z2 (List.Perm.symm ((hE1 rfl _ _).mp h).2)))
  exact main c c 0 FUEL ke oke (Nat.le_refl c) (Nat.le_refl c) (by omega) (fuel_big (by omega)) (fun k g1 g2 => by omega)
theorem RS_open {n a v : Nat} {E : Nat → Nat → Prop} {fi he ne s : Nat → Int32} {su : Nat → Int64} (ha : vd n a) (hf : fsE n E a = true) (hv : v < 1024) (ev : s a = nI v) (hR : RS n s E (fb_ct (fsE n E) a) fi he ne su) : RS n s E (fb_ct (fsE n E) a + 1) (upd fi (fb_ct (fsE n E) a) (nI a)) (upd he v (nI (fb_ct (fsE n E) a))) (upd ne (fb_ct (fsE n E) a) (he v)) (vp_updL su (fb_ct (fsE n E) a) (suK s n a)) := by
  have hk : ktE n E (fb_ct (fsE n E) a) = a := kt_of ha.1 hf
  refine ⟨all_next.mpr ⟨fun k hk2 => ?_, ?_⟩, fun w hw => ?_⟩
  · rw [updN (by omega), updN (by omega), pk_uLn (by omega)]
    exact hR.1 k hk2
  · rw [updS, updS, pk_uLs, hk, hR.2 v hv, ev]
    exact ⟨rfl, rfl, rfl⟩
  · show _ = (if sB s n E (nI w) (fb_ct (fsE n E) a) = true then nI (fb_ct (fsE n E) a) else pv (sB s n E (nI w)) (fb_ct (fsE n E) a))
    by_cases e : w = v
    · rw [e, updS, if_pos (sB_t.mpr (by rw [hk, ev]))]
    · rw [updN e, if_neg (fun h => ?_)]
      · exact hR.2 w hw
      · have := sB_t.mp h
        rw [hk, ev, nI_eq (by omega) (by omega)] at this
        exact e this.symm
