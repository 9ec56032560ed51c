/-! the model's parting -/
theorem M_sign_s {n p q : Nat} {s sg : Nat → Int32} (hn : n ≤ 32) (hp : p < n) (hq : q < n) : Ok (M_sign (nI p) (nI q) (nI n) s sg) (fun w => (∀ i j, i < j → j < n → w (32 * (32 * p + q) + i) ≤ w (32 * (32 * p + q) + j)) ∧ ((List.range n).map (fun j => w (32 * (32 * p + q) + j))).Perm (kl s n (32 * p + q)) ∧ ∀ j, (j < 32 * (32 * p + q) ∨ 32 * (32 * p + q) + 32 ≤ j) → w j = sg j) := by
  obtain ⟨o, ho⟩ : ∃ o, o = 32 * (32 * p + q) := ⟨_, rfl⟩
  have hol : o + 32 ≤ 32768 := by omega
  rw [← ho]
  unfold M_sign
  rw [i32, show (32 : Int32) * nI (32 * p + q) = nI o by rw [ho, show (32 : Int32) = nI 32 from rfl, pk_mul]]
  refine ok_l ?_
  refine fr2 (fun F x w => M_sign_l13 (nI n) s F (nI p) (nI q) (nI o) x w) (fun i x w => x = nI i ∧ (∀ u v, u < v → v < i → w (o + u) ≤ w (o + v)) ∧ ((List.range i).map (fun j => w (o + j))).Perm (kl s i (32 * p + q)) ∧ ∀ j, (j < o ∨ o + 32 ≤ j) → w j = sg j) n (fuel_big (by omega)) ?_ ?_ 0 (Nat.zero_le _) 0 sg ⟨rfl, fun u v h1 h2 => by omega, List.Perm.refl _, fun _ _ => rfl⟩
  · rintro x hx y w ⟨rfl, g1, g2, g3⟩ F ih
    rw [M_sign_l13_s]
    unfold M_sign_n13
    rw [i32, i32]
    refine ok_f (nI_ge hx (by omega)) (ok_g (inb_nI (by omega) (by omega)) (ok_g (inb_nI (by omega) (by omega)) (ok_l ?_)))
    have ek : (1024 : Int32) * s (nI (32 * p + x)).toNatClampNeg + s (nI (32 * x + q)).toNatClampNeg = ky s (32 * p + q) x := by
      unfold ky
      rw [cl_nI (by omega), cl_nI (by omega), Int32.mul_comm, show (32 * p + q) / 32 = p by omega, show (32 * p + q) % 32 = q by omega]
    rw [ek]
    obtain ⟨v0, hv0⟩ : ∃ v0, v0 = ky s (32 * p + q) x := ⟨_, rfl⟩
    rw [← hv0]
    have fin : ∀ k, k ≤ x → ∀ r1 : Nat → Int32, (∀ j, j < k → r1 (o + j) = w (o + j)) → (∀ j, k < j → j ≤ x → r1 (o + j) = w (o + (j - 1))) → (∀ j, k ≤ j → j < x → v0 ≤ w (o + j)) → (∀ j, j < k → w (o + j) ≤ v0) → (∀ j, (j < o ∨ o + 32 ≤ j) → r1 j = sg j) → Ok (M_sign_n104 (fun x1 x2 x3 x4 signs => M_sign_l13 (nI n) s F x1 x2 x3 x4 signs) (nI p) (nI q) (nI o) (nI x) v0 (nI k) r1) (fun w => (∀ i j, i < j → j < n → w (o + i) ≤ w (o + j)) ∧ ((List.range n).map (fun j => w (o + j))).Perm (kl s n (32 * p + q)) ∧ ∀ j, (j < o ∨ o + 32 ≤ j) → w j = sg j) := by
      intro k hk r1 e1 e2 e3 e4 e5
      unfold M_sign_n104
      rw [nI_add, cl_nI (by omega)]
      have er : ∀ j, j < x + 1 → upd r1 (o + k) v0 (o + j) = insF (fun j => w (o + j)) k v0 j := by
        intro j hj
        unfold insF
        by_cases c : j = k
        · rw [c, updS, if_neg (by omega), if_pos rfl]
        · rw [updN (by omega)]
          by_cases c2 : j < k
          · rw [if_pos c2]; exact e1 j c2
          · rw [if_neg c2, if_neg c]; exact e2 j (by omega) (by omega)
      refine ok_g (inb_nI (by omega) (by omega)) (ih _ _ ⟨nI_1 x, fun u v huv hv => ?_, ?_, fun j hj => by rw [updN (by omega)]; exact e5 j hj⟩)
      · rw [er u (by omega), er v hv]
        exact ins_sort (a := fun j => w (o + j)) hk g1 e4 e3 u v huv hv
      · refine (row_perm (f := fun j => upd r1 (o + k) v0 (o + j)) er).trans ((ins_perm hk).trans ?_)
        unfold kl
        rw [List.range_succ, List.map_append, hv0]
        exact (List.Perm.cons _ g2).trans (List.perm_append_singleton _ _).symm
    have step := fmu2 (P := fun w => (∀ i j, i < j → j < n → w (o + i) ≤ w (o + j)) ∧ ((List.range n).map (fun j => w (o + j))).Perm (kl s n (32 * p + q)) ∧ ∀ j, (j < o ∨ o + 32 ≤ j) → w j = sg j) (fun G y r1 => M_sign_l57 (fun x1 x2 x3 x4 signs => M_sign_l13 (nI n) s F x1 x2 x3 x4 signs) G (nI p) (nI q) (nI o) (nI x) v0 y r1) (fun y r1 => ∃ k, y = nI k ∧ k ≤ x ∧ (∀ j, j < k → r1 (o + j) = w (o + j)) ∧ (∀ j, k < j → j ≤ x → r1 (o + j) = w (o + (j - 1))) ∧ (∀ j, k ≤ j → j < x → v0 ≤ w (o + j)) ∧ ∀ j, (j < o ∨ o + 32 ≤ j) → r1 j = sg j) (fun y _ => y.toNatClampNeg) (by
      rintro y r1 ⟨k, rfl, hk, e1, e2, e3, e5⟩ G ih2
      show Ok (M_sign_l57 _ (G + 1) (nI p) (nI q) (nI o) (nI x) v0 (nI k) r1) _
      rw [M_sign_l57_s]
      unfold M_sign_n57
      refine ok_i (fun c => ?_) (fun c => ?_)
      · have c : k = 0 := Nat.le_zero.mp ((nI_leI (b := 0) (by omega) (by decide)).mp c)
        subst c
        exact fin 0 (by omega) r1 e1 e2 e3 (fun j hj => by omega) e5
      · obtain ⟨k, rfl⟩ : ∃ j, k = j + 1 := ⟨k - 1, by
          have : ¬ k = 0 := fun h => c (by rw [h]; decide)
          omega⟩
        rw [nI_add, ← Nat.add_assoc, nI_pred, cl_nI (by omega), cl_nI (by omega), e1 k (by omega)]
        refine ok_g (inb_nI (by omega) (by omega)) (ok_i (fun c2 => ?_) (fun c2 => ok_g (inb_nI (by omega) (by omega)) ?_))
        · refine fin (k + 1) hk r1 e1 e2 e3 (fun j hj => ?_) e5
          by_cases ej : j = k
          · rw [ej]; exact c2
          · exact Int32.le_trans (g1 j k (by omega) (by omega)) c2
        · rw [pk_m1]
          refine ih2 _ _ ⟨k, rfl, by omega, fun j hj => by rw [updN (by omega)]; exact e1 j (by omega), fun j hj hj2 => ?_, fun j hj hj2 => ?_, fun j hj => by rw [updN (by omega)]; exact e5 j hj⟩ (by rw [cl_nI (by omega), cl_nI (by omega)]; omega)
          · by_cases ej : j = k + 1
            · rw [ej, ← Nat.add_assoc, updS]; rfl
            · rw [updN (by omega)]; exact e2 j (by omega) hj2
          · by_cases ej : j = k
            · rw [ej, fa_le]; rw [fa_le] at c2; omega
            · exact e3 j (by omega) hj2) FUEL (nI x) w ⟨x, rfl, Nat.le_refl x, fun j _ => rfl, fun j h1 h2 => by omega, fun j h1 h2 => by omega, g3⟩ (by rw [cl_nI (by omega)]; exact fuel_big (by omega))
    exact step
  · rintro y w ⟨rfl, g1, g2, g3⟩ F
    rw [M_sign_l13_s]
    unfold M_sign_n13 M_sign_n121
    exact ok_t (nI_le (Nat.le_refl n) (by omega)) (ok_s ⟨g1, g2, g3⟩)
/-- all rows of keys stand -/
def SG (n : Nat) (s sg : Nat → Int32) (m : Nat) : Prop := ∀ a, vd n a → a < m → (∀ i j, i < j → j < n → sg (32 * a + i) ≤ sg (32 * a + j)) ∧ ((List.range n).map (fun j => sg (32 * a + j))).Perm (kl s n a)
theorem M_areAlike_s {n a b : Nat} {s sg : Nat → Int32} (hn : n ≤ 32) (ha : vd n a) (hb : vd n b) (h : SG n s sg 1024) : Ok (M_areAlike (nI a) (nI b) (nI n) s sg) (fun z => (z = 1 ∧ Ex s n a b) ∨ (z = 0 ∧ ¬ Ex s n a b)) := by
  have h1 := ha.1
  have h2 := hb.1
  obtain ⟨a1, a2⟩ := h a ha h1
  obtain ⟨b1, b2⟩ := h b hb h2
  have loop : ∀ t : Bool, Ok (M_areAlike_l24 (nI n) sg FUEL (nI a) (nI b) (bI t) 0) (fun z => (z = 1 ∧ t = true ∧ smK s n a b) ∨ (z = 0 ∧ ¬ (t = true ∧ smK s n a b))) := by
    intro t
    refine fr2 (fun F y x => M_areAlike_l24 (nI n) sg F (nI a) (nI b) y x) (fun i y x => x = nI i ∧ ((y = 1 ∧ t = true ∧ ∀ j, j < i → sg (32 * a + j) = sg (32 * b + j)) ∨ (y = 0 ∧ ¬ (t = true ∧ smK s n a b)))) n (fuel_big (by omega)) ?_ ?_ 0 (Nat.zero_le _) (bI t) 0 ⟨rfl, by
      cases t
      · exact Or.inr ⟨rfl, fun h => absurd h.1 (by decide)⟩
      · exact Or.inl ⟨rfl, rfl, all_none⟩⟩
    · rintro i hi y x ⟨rfl, g⟩ F ih
      rw [M_areAlike_l24_s]
      unfold M_areAlike_n24 M_areAlike_n76 M_areAlike_n69
      refine ok_f (nI_ge hi (by omega)) ?_
      rcases g with ⟨rfl, g1, g2⟩ | ⟨rfl, g1⟩
      rotate_left
      · exact ok_t rfl (ok_g isb_0 (ok_s (Or.inr ⟨rfl, g1⟩)))
      rw [i32, i32, cl_nI (by omega), cl_nI (by omega)]
      refine ok_f (by decide) (ok_g (inb_nI (by omega) (by omega)) (ok_g (inb_nI (by omega) (by omega)) (ok_i (fun c => ih _ _ ⟨nI_1 i, Or.inl ⟨rfl, g1, all_next.mpr ⟨g2, c⟩⟩⟩) (fun c => ih _ _ ⟨nI_1 i, Or.inr ⟨rfl, fun hs => c ?_⟩⟩))))
      exact row_same (f := fun j => sg (32 * a + j)) (g := fun j => sg (32 * b + j)) a1 b1 (a2.trans (List.Perm.trans hs.2 b2.symm)) i hi
    · rintro y x ⟨rfl, g⟩ F
      rw [M_areAlike_l24_s]
      unfold M_areAlike_n24 M_areAlike_n76
      refine ok_t (nI_le (Nat.le_refl n) (by omega)) ?_
      rcases g with ⟨rfl, g1, g2⟩ | ⟨rfl, g1⟩
      · exact ok_g isb_1 (ok_s (Or.inl ⟨rfl, g1, a2.symm.trans ((row_perm (f := fun j => sg (32 * a + j)) (g := fun j => sg (32 * b + j)) g2).trans b2)⟩))
      · exact ok_g isb_0 (ok_s (Or.inr ⟨rfl, g1⟩))
  unfold M_areAlike M_areAlike_n20
  rw [cl_nI (by omega), cl_nI (by omega)]
  refine ok_g (inb_nI h1 (by omega)) (ok_g (inb_nI h2 (by omega)) (ok_i (fun c => ok_m (loop true) (fun z hz => ?_)) (fun c => ok_m (loop false) (fun z hz => ?_))))
  · rcases hz with ⟨z1, _, z2⟩ | ⟨z1, z2⟩
    · exact Or.inl ⟨z1, c, z2⟩
    · exact Or.inr ⟨z1, fun h => z2 ⟨rfl, h.2⟩⟩
  · rcases hz with ⟨z1, z2, _⟩ | ⟨z1, z2⟩
    · cases z2
    · exact Or.inr ⟨z1, fun h => c h.1⟩
theorem M_partOnce_s {n : Nat} {fp s nk sg : Nat → Int32} (hn : n ≤ 32) : Ok (M_partOnce (nI n) fp s nk sg) (fun z => ∃ c, z.1 = nI c ∧ can n z.2.2.1 c (Ex s n)) := by
  have hE := Ex_E s n
  unfold M_partOnce
  refine fr2 (fun F x sg => M_partOnce_l2 (nI n) F x fp s nk sg) (fun p x sg => x = nI p ∧ SG n s sg (32 * p)) n (fuel_big (by omega)) ?_ ?_ 0 (Nat.zero_le _) 0 sg ⟨rfl, fun a _ h => by omega⟩
  · rintro p hp x sg ⟨rfl, h1⟩ F ih
    rw [M_partOnce_l2_s]
    unfold M_partOnce_n2
    refine ok_f (nI_ge hp (by omega)) ?_
    refine fr2 (fun F x sg => M_partOnce_l12 _ (nI n) F (nI p) x fp s nk sg) (fun q x sg => x = nI q ∧ SG n s sg (32 * p + q)) n (fuel_big (by omega)) ?_ ?_ 0 (Nat.zero_le _) 0 sg ⟨rfl, h1⟩
    · rintro q hq x sg ⟨rfl, h2⟩ F2 ih2
      rw [M_partOnce_l12_s]
      unfold M_partOnce_n12
      refine ok_f (nI_ge hq (by omega)) (ok_b (M_sign_s hn hp hq) (fun w hw => ih2 _ _ ⟨nI_1 q, fun a ha hlt => ?_⟩))
      by_cases e : a = 32 * p + q
      · rw [e]; exact ⟨hw.1, hw.2.1⟩
      · have old : ∀ j, j < 32 → w (32 * a + j) = sg (32 * a + j) := fun j hj => hw.2.2 _ (by omega)
        obtain ⟨k1, k2⟩ := h2 a ha (by omega)
        refine ⟨fun i j hij hj => by rw [old i (by omega), old j (by omega)]; exact k1 i j hij hj, ?_⟩
        exact (row_perm (f := fun j => w (32 * a + j)) (g := fun j => sg (32 * a + j)) (fun j hj => old j (by omega))).trans k2
    · rintro x sg ⟨rfl, h2⟩ F2
      rw [M_partOnce_l12_s]
      unfold M_partOnce_n12 M_partOnce_n32
      exact ok_t (nI_le (Nat.le_refl n) (by omega)) (ih _ _ ⟨nI_1 p, fun a ha hlt => h2 a ha (by unfold vd at ha; omega)⟩)
  · rintro x sg ⟨rfl, h1⟩ F
    rw [M_partOnce_l2_s]
    unfold M_partOnce_n2 M_partOnce_n38
    have hSG : SG n s sg 1024 := fun a ha _ => h1 a ha (by unfold vd at ha; omega)
    refine ok_t (nI_le (Nat.le_refl n) (by omega)) ?_
    refine fr4 (fun F c x fp nk => M_partOnce_l42 (nI n) F c x fp s nk sg) (fun p c x fp nk => x = nI p ∧ c = nI (fb_ct (fsE n (Ex s n)) (32 * p)) ∧ (∀ k, k < fb_ct (fsE n (Ex s n)) (32 * p) → fp k = nI (ktE n (Ex s n) k)) ∧ ∀ b, vd n b → b < 32 * p → nk b = nI (nmE n (Ex s n) b)) n (fuel_big (by omega)) ?_ ?_ 0 (Nat.zero_le _) 0 0 fp nk ⟨rfl, rfl, all_none, fun b _ h => by omega⟩
    · rintro p hp c x fp nk ⟨rfl, rfl, h2, h3⟩ F ih
      rw [M_partOnce_l42_s]
      unfold M_partOnce_n42
      refine ok_f (nI_ge hp (by omega)) ?_
      refine fr4 (fun F c x fp nk => M_partOnce_l52 _ (nI n) F c (nI p) x fp s nk sg) (fun q c x fp nk => x = nI q ∧ c = nI (fb_ct (fsE n (Ex s n)) (32 * p + q)) ∧ (∀ k, k < fb_ct (fsE n (Ex s n)) (32 * p + q) → fp k = nI (ktE n (Ex s n) k)) ∧ ∀ b, vd n b → b < 32 * p + q → nk b = nI (nmE n (Ex s n) b)) n (fuel_big (by omega)) ?_ ?_ 0 (Nat.zero_le _) _ 0 fp nk ⟨rfl, rfl, h2, h3⟩
      · rintro q hq c x fp nk ⟨rfl, rfl, h4, h5⟩ F2 ih2
        have ha := vd_at hn hp hq
        have hcle := fb_ct_le (fsE n (Ex s n)) (32 * p + q)
        have hkv : ∀ k, k < fb_ct (fsE n (Ex s n)) (32 * p + q) → vd n (ktE n (Ex s n) k) := fun k hk => (kE_is (Nat.lt_of_lt_of_le hk (fb_ct_mono _ (Nat.le_of_lt ha.1)))).1
        have put : ∀ b, vd n b → b < 32 * p + (q + 1) → upd nk (32 * p + q) (nI (nmE n (Ex s n) (32 * p + q))) b = nI (nmE n (Ex s n) b) := by
          intro b hb hlt
          by_cases e : b = 32 * p + q
          · rw [e, updS]
          · rw [updN e]; exact h5 b hb (by omega)
        rw [M_partOnce_l52_s]
        unfold M_partOnce_n52
        rw [i32]
        refine ok_f (nI_ge hq (by omega)) ?_
        have fin : ∀ k, k = nmE n (Ex s n) (32 * p + q) → k ≤ fb_ct (fsE n (Ex s n)) (32 * p + q) → Ok (M_partOnce_n99 (fun x1 x2 x3 firstPair kindOf newKind signs => M_partOnce_l52 (fun x1 x2 firstPair kindOf newKind signs => M_partOnce_l42 (nI n) F x1 x2 firstPair kindOf newKind signs) (nI n) F2 x1 x2 x3 firstPair kindOf newKind signs) (nI (fb_ct (fsE n (Ex s n)) (32 * p + q))) (nI p) (nI q) (nI (32 * p + q)) (nI k) fp s nk sg) (fun z => ∃ c, z.1 = nI c ∧ can n z.2.2.1 c (Ex s n)) := by
          intro k hk hkc
          unfold M_partOnce_n99 M_partOnce_n116
          rw [cl_nI (by omega), cl_nI (by omega)]
          refine ok_i (fun c => ok_g (inb_nI (by omega) (by omega)) (ok_g (inb_nI (by omega) (by omega)) (ih2 _ _ _ _ ⟨nI_1 q, ?_, ?_, ?_⟩))) (fun c => ok_g (inb_nI (by omega) (by omega)) (ih2 _ _ _ _ ⟨nI_1 q, ?_, ?_, ?_⟩))
          · have c := (nI_eq (by omega) (by omega)).mp c
            obtain ⟨hf, _⟩ := kE_new hE ha (by omega)
            rw [← Nat.add_assoc, fb_ct_succ, hf, nI_1]; rfl
          · have c := (nI_eq (by omega) (by omega)).mp c
            obtain ⟨hf, _⟩ := kE_new hE ha (by omega)
            rw [← Nat.add_assoc, fb_ct_succ, hf]
            refine all_next.mpr ⟨fun j hj => by rw [updN (by omega)]; exact h4 j hj, ?_⟩
            rw [updS]
            exact congrArg nI (kt_of ha.1 hf).symm
          · rw [hk]; exact put
          · have c : k ≠ fb_ct (fsE n (Ex s n)) (32 * p + q) := fun h => c (congrArg nI h)
            have hf := kE_old hE ha (by omega)
            rw [← Nat.add_assoc, fb_ct_succ, hf]; rfl
          · have c : k ≠ fb_ct (fsE n (Ex s n)) (32 * p + q) := fun h => c (congrArg nI h)
            have hf := kE_old hE ha (by omega)
            rw [← Nat.add_assoc, fb_ct_succ, hf]; exact h4
          · rw [hk]; exact put
        refine fr1 (fun F x => M_partOnce_l71 _ (nI n) F (nI (fb_ct (fsE n (Ex s n)) (32 * p + q))) (nI p) (nI q) (nI (32 * p + q)) x fp s nk sg) (fun k x => x = nI k ∧ ∀ j, j < k → j ≠ nmE n (Ex s n) (32 * p + q)) (fb_ct (fsE n (Ex s n)) (32 * p + q)) (fuel_big (by omega)) ?_ ?_ 0 (Nat.zero_le _) 0 ⟨rfl, all_none⟩
        · rintro k hk x ⟨rfl, h6⟩ F3 ih3
          rw [M_partOnce_l71_s]
          unfold M_partOnce_n71
          rw [cl_nI (by omega), h4 k hk]
          refine ok_f (nI_ge hk (by omega)) (ok_g (inb_nI (by omega) (by omega)) (ok_b (M_areAlike_s hn (hkv k hk) ha hSG) (fun z hz => ?_)))
          rcases hz with ⟨z1, z2⟩ | ⟨z1, z2⟩
          · rw [z1]
            exact ok_f (by decide) (fin k ((kE_match hE ha hk).mp z2) (Nat.le_of_lt hk))
          · rw [z1]
            exact ok_t rfl (ih3 _ ⟨nI_1 k, all_next.mpr ⟨h6, fun e => z2 ((kE_match hE ha hk).mpr e)⟩⟩)
        · rintro x ⟨rfl, h6⟩ F3
          rw [M_partOnce_l71_s]
          unfold M_partOnce_n71
          have hno : ¬ nmE n (Ex s n) (32 * p + q) < fb_ct (fsE n (Ex s n)) (32 * p + q) := fun h => h6 _ h rfl
          exact ok_t (nI_le (Nat.le_refl _) (by omega)) (fin _ (kE_new hE ha hno).2.symm (Nat.le_refl _))
      · rintro c x fp nk ⟨rfl, rfl, h4, h5⟩ F2
        rw [M_partOnce_l52_s]
        unfold M_partOnce_n52 M_partOnce_n131
        refine ok_t (nI_le (Nat.le_refl n) (by omega)) (ih _ _ _ _ ⟨nI_1 p, by rw [fE_gap hn], by rw [fE_gap hn]; exact h4, fun b hb hlt => h5 b hb (by unfold vd at hb; omega)⟩)
    · rintro c x fp nk ⟨rfl, rfl, h2, h3⟩ F
      rw [M_partOnce_l42_s]
      unfold M_partOnce_n42 M_partOnce_n137
      refine ok_t (nI_le (Nat.le_refl n) (by omega)) ?_
      refine fr2 (fun F x k => M_partOnce_l139 F (nI (fb_ct (fsE n (Ex s n)) (32 * n))) x fp k nk sg) (fun i x k => x = nI i ∧ ∀ j, j < i → k j = nk j) 1024 (fuel_big (by omega)) ?_ ?_ 0 (Nat.zero_le _) 0 s ⟨rfl, all_none⟩
      · rintro i hi x k ⟨rfl, h4⟩ F ih
        rw [M_partOnce_l139_s]
        unfold M_partOnce_n139
        rw [cl_nI (by omega)]
        exact ok_f (nI_ge hi (by decide)) (ok_g (inb_nI (by omega) (by omega)) (ih _ _ ⟨nI_1 i, all_next.mpr ⟨fun j hj => by rw [updN (by omega)]; exact h4 j hj, updS⟩⟩))
      · rintro x k ⟨rfl, h4⟩ F
        rw [M_partOnce_l139_s]
        unfold M_partOnce_n139 M_partOnce_n164
        refine ok_t (nI_le (Nat.le_refl _) (by decide)) (ok_s ⟨_, rfl, hE, fun a ha => ?_, (fE_end hn).symm⟩)
        show k a = _
        rw [h4 a ha.1]
        exact h3 a ha (by unfold vd at ha; omega)
theorem M_findKinds_s {n : Nat} {ak km : Int32} {fp s nk road sg : Nat → Int32} {adj : Nat → Nat → Bool} (hw : WF n adj) (hb : Mb road adj) (hc : ak = 0 ∨ (ak = 1 ∧ ∃ c, km = nI c ∧ fnl adj n s c)) : Ok (M_findKinds ak km (nI n) fp s nk road sg) (fun z => z.1 = 1 ∧ ∃ c, z.2.1 = nI c ∧ fnl adj n z.2.2.2.1 c) := by
  have hn := hw.1
  unfold M_findKinds
  rcases hc with hc | ⟨h1, h2⟩
  rotate_left
  · exact ok_f (by rw [h1]; decide) (ok_s ⟨h1, h2⟩)
  refine ok_t hc ?_
  refine fr2 (fun F x s => M_findKinds_l15 (nI n) road F x 1 km fp s nk sg) (fun i x s => x = nI i ∧ ∀ j, j < i → s j = nI (ty adj j)) 1024 (fuel_big (by omega)) ?_ ?_ 0 (Nat.zero_le _) 0 s ⟨rfl, all_none⟩
  · rintro i hi x s ⟨rfl, h1⟩ F ih
    rw [M_findKinds_l15_s]
    unfold M_findKinds_n15 M_findKinds_n56
    have e1 : nI i / 32 = nI (i / 32) := pk_div (d := 32) (by omega) (by omega) (by omega)
    have e2 : nI i - nI i / 32 * 32 = nI (i % 32) := pk_rem (d := 32) (by omega) (by omega) (by omega)
    rw [e2, e1, cl_nI (by omega)]
    have hr : road i = bI (adj (i / 32) (i % 32)) := by
      have := hb (i / 32) (by omega) (i % 32) (by omega)
      rw [show 32 * (i / 32) + i % 32 = i by omega] at this
      exact this
    rw [hr]
    refine ok_f (nI_ge hi (by decide)) (ok_i (fun c => ok_g (inb_nI (by omega) (by omega)) (ih _ _ ⟨nI_1 i, all_next.mpr ⟨fun j hj => by rw [updN (by omega)]; exact h1 j hj, ?_⟩⟩)) (fun c => ok_g (inb_nI (by omega) (by omega)) (ok_i (fun c2 => ok_g (inb_nI (by omega) (by omega)) (ih _ _ ⟨nI_1 i, all_next.mpr ⟨fun j hj => by rw [updN (by omega)]; exact h1 j hj, ?_⟩⟩)) (fun c2 => ok_g (inb_nI (by omega) (by omega)) (ih _ _ ⟨nI_1 i, all_next.mpr ⟨fun j hj => by rw [updN (by omega)]; exact h1 j hj, ?_⟩⟩)))))
    · have c := (nI_eq (by omega) (by omega)).mp c
      rw [updS]
      unfold ty
      rw [if_pos c]; rfl
    · have c : ¬ i / 32 = i % 32 := fun h => c (congrArg nI h)
      rw [updS]
      unfold ty
      rw [if_neg c, bI_eq0.mp c2]; rfl
    · have c : ¬ i / 32 = i % 32 := fun h => c (congrArg nI h)
      rw [updS]
      unfold ty
      rw [if_neg c]
      cases hv : adj (i / 32) (i % 32)
      · rw [hv] at c2; exact absurd rfl c2
      · rfl
  · rintro x s ⟨rfl, h1⟩ F
    rw [M_findKinds_l15_s]
    unfold M_findKinds_n15 M_findKinds_n63
    refine ok_t (nI_le (Nat.le_refl _) (by decide)) ?_
    have tle : ∀ a, ty adj a ≤ 2 := fun a => by
      unfold ty
      by_cases c1 : a / 32 = a % 32
      · rw [if_pos c1]; omega
      · rw [if_neg c1]
        by_cases c2 : adj (a / 32) (a % 32) = true
        · rw [if_pos c2]; omega
        · rw [if_neg c2]; omega
    have teq : ∀ a b, vd n a → vd n b → (s a = s b ↔ E0 adj a b) := fun a b ha hb => by
      have t1 := tle a
      have t2 := tle b
      rw [h1 a ha.1, h1 b hb.1, nI_eq (by omega) (by omega), ty_E0]
    have m0 : mid adj n s := ⟨fun a ha => ⟨_, by have := tle a; omega, h1 a ha.1⟩, fun a b ha hb e => (teq a b ha hb).mp e, fun T hT a b ha hb e => (teq a b ha hb).mpr (hT.2.1 a b ha hb e)⟩
    refine fr6 (fun F x km fp s nk sg => M_findKinds_l70 (nI n) F x 1 km fp s nk sg) (fun r x km fp s nk sg => mid adj n s ∧ ((r = 0 ∧ x = 0 ∧ km = -1) ∨ (1 ≤ r ∧ ∃ c d S, x = nI c ∧ km = nI d ∧ d ≤ c ∧ r ≤ d + 1 ∧ mid adj n S ∧ can n s c (Ex S n) ∧ ((d = 0 ∧ r = 1) ∨ ∃ E, can n S d E)))) 1026 (fuel_big (by omega)) ?_ ?_ 0 (Nat.zero_le _) 0 (-1) fp s nk sg ⟨m0, Or.inl ⟨rfl, rfl, rfl⟩⟩
    · rintro r hr x km fp s nk sg ⟨m1, h2⟩ F ih
      rw [M_findKinds_l70_s]
      unfold M_findKinds_n70 M_findKinds_n91
      rcases h2 with ⟨rfl, rfl, rfl⟩ | ⟨hr1, c, d, S, rfl, rfl, hdc, hrd, mS, h3, h4⟩
      · refine ok_f (by decide) (ok_b (M_partOnce_s hn) (fun z hz => ?_))
        obtain ⟨c, e, h3⟩ := hz
        exact ih _ _ _ _ _ _ ⟨mid_x hn m1 h3, Or.inr ⟨by omega, c, 0, s, e, rfl, Nat.zero_le c, by omega, m1, h3, Or.inl ⟨rfl, rfl⟩⟩⟩
      · have hc : c ≤ 1024 := by rw [h3.2.2]; exact cnE_le
        refine ok_i (fun c1 => ok_s ⟨rfl, d, rfl, ?_⟩) (fun c1 => ok_b (M_partOnce_s hn) (fun z hz => ?_))
        · have c1 : c = d := (nI_eq (by omega) (by omega)).mp c1
          subst c1
          rcases h4 with ⟨h0, _⟩ | ⟨E, h4⟩
          · have none : ∀ a, ¬ vd n a := fun a ha => by
              have := nE_lt h3.1 ha
              rw [← h3.2.2, h0] at this
              omega
            exact ⟨m1, fun a b ha => absurd ha (none a), _, h3⟩
          · exact fnl_x hn mS h4 h3
        · have c1 : c ≠ d := fun h => c1 (congrArg nI h)
          obtain ⟨c2, e, h5⟩ := hz
          have hcc : c ≤ c2 := by
            have := cE_le h3.1 h5.1 (fun a b ha hb g => (can_eq h3 ha hb).mp g.1)
            rw [← h3.2.2, ← h5.2.2] at this
            exact this
          exact ih _ _ _ _ _ _ ⟨mid_x hn m1 h5, Or.inr ⟨by omega, c2, c, s, e, rfl, hcc, by omega, m1, h5, Or.inr ⟨_, h3⟩⟩⟩
    · rintro x km fp s nk sg ⟨m1, h2⟩ F
      rcases h2 with ⟨h, _⟩ | ⟨hr1, c, d, S, rfl, rfl, hdc, hrd, mS, h3, h4⟩
      · omega
      · have hc : c ≤ 1024 := by rw [h3.2.2]; exact cnE_le
        omega
