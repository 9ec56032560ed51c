/-! how many roads -/
theorem ct_ext {p : Nat → Bool} {n m : Nat} (h : n ≤ m) (hp : ∀ k, n ≤ k → p k = false) : fb_ct p m = fb_ct p n := by
  obtain ⟨d, rfl⟩ : ∃ d, m = n + d := ⟨m - n, by omega⟩
  rw [fb_ct_split, fb_ct_zero.mpr (fun k _ => hp (n + k) (by omega)), Nat.add_zero]
def deg (adj : Nat → Nat → Bool) (n p : Nat) : Nat := fb_ct (adj p) n
def roadsN (adj : Nat → Nat → Bool) (n : Nat) : Nat := fb_sm (deg adj n) n / 2
theorem deg_le (adj : Nat → Nat → Bool) (n p : Nat) : deg adj n p ≤ n := fb_ct_le _ _
theorem deg_32 {adj : Nat → Nat → Bool} {n : Nat} (hw : WF n adj) (p : Nat) : fb_ct (adj p) 32 = deg adj n p :=
  ct_ext hw.1 (fun k hk => by
    cases h : adj p k
    · rfl
    · exact absurd (hw.2.2.2 p k h).2 (by omega))
theorem cnt_near {near : Nat → Int32} {adj : Nat → Nat → Bool} (hb : Lb near adj) {p : Nat} (hp : p < 32) : cnt (near p) = fb_ct (adj p) 32 := fb_ct_cong (fun q hq => hb p hp q hq)
theorem Net_fullness_s {n p : Nat} {near : Nat → Int32} {adj : Nat → Nat → Bool} (hw : WF n adj) (hb : Lb near adj) (hp : p < 32) : Net_fullness (nI p) near = some (nI (deg adj n p)) := by
  unfold Net_fullness
  rw [gd_t (inb_nI hp (by decide)), cl_nI (by omega), bnd_at (JI_bitCount_s _), cnt_near hb hp, deg_32 hw]
theorem M_fullness_s {n p : Nat} {road : Nat → Int32} {adj : Nat → Nat → Bool} (hn : n ≤ 32) (hb : Mb road adj) (hp : p < 32) : M_fullness (nI p) (nI n) road = some (nI (deg adj n p)) := by
  unfold M_fullness
  apply ok_eq
  refine loop_ok (fun F (s : Int32 × Int32) => M_fullness_l4 (nI n) road F (nI p) s.1 s.2) (fun i s => s = (nI (fb_ct (adj p) i), nI i)) n (fuel_big (by omega)) ?_ ?_ 0 (Nat.zero_le _) (0, 0) rfl
  · rintro i hi s rfl F ih
    show Ok (M_fullness_l4 (nI n) road (F + 1) (nI p) (nI _) (nI i)) _
    rw [M_fullness_l4_s]
    unfold M_fullness_n4 M_fullness_n32
    rw [i32]
    refine ok_f (nI_ge hi (by omega)) (ok_g (inb_nI (by omega) (by omega)) ?_)
    rw [cl_nI (by omega), hb p hp i (by omega)]
    cases h : adj p i
    · refine ok_t (by decide) (ih (nI (fb_ct (adj p) i) + 0, nI i + 1) ?_)
      rw [nI_1, fb_ct_succ, h, show (0 : Int32) = nI 0 from rfl, nI_add]; rfl
    · refine ok_f (by decide) (ih (nI (fb_ct (adj p) i) + 1, nI i + 1) ?_)
      rw [nI_1, nI_1, fb_ct_succ, h]; rfl
  · rintro s rfl F
    show Ok (M_fullness_l4 (nI n) road (F + 1) (nI p) (nI _) (nI n)) _
    rw [M_fullness_l4_s]
    unfold M_fullness_n4 M_fullness_n40
    exact ok_t (nI_le (Nat.le_refl n) (by omega)) (ok_s rfl)
theorem sm_le (adj : Nat → Nat → Bool) (n i : Nat) : fb_sm (deg adj n) i ≤ i * n := fb_sm_bound (fun k _ => deg_le adj n k)
theorem half_nI {a : Nat} (h : a < 2 ^ 31) : nI a / 2 = nI (a / 2) := pk_div (d := 2) h (by decide) (by decide)
theorem sm_small {adj : Nat → Nat → Bool} {n : Nat} (hn : n ≤ 32) : fb_sm (deg adj n) n ≤ 1024 := Nat.le_trans (sm_le adj n n) (Nat.mul_le_mul hn hn)
theorem Net_roads_s {n : Nat} {near : Nat → Int32} {adj : Nat → Nat → Bool} (hw : WF n adj) (hb : Lb near adj) : Net_roads (nI n) near = some (nI (roadsN adj n)) := by
  have hn := hw.1
  unfold Net_roads
  apply ok_eq
  refine loop_ok (fun F (s : Int32 × Int32) => Net_roads_l4 (nI n) near F s.1 s.2) (fun i s => s = (nI (fb_sm (deg adj n) i), nI i)) n (fuel_big (by omega)) ?_ ?_ 0 (Nat.zero_le _) (0, 0) rfl
  · rintro i hi s rfl F ih
    show Ok (Net_roads_l4 (nI n) near (F + 1) (nI _) (nI i)) _
    rw [Net_roads_l4_s]
    unfold Net_roads_n4
    refine ok_f (nI_ge hi (by omega)) (ok_e (Net_fullness_s hw hb (by omega)) ?_)
    exact ih (nI (fb_sm (deg adj n) i) + nI (deg adj n i), nI i + 1) (by rw [nI_1, nI_add, fb_sm_succ])
  · rintro s rfl F
    show Ok (Net_roads_l4 (nI n) near (F + 1) (nI _) (nI n)) _
    rw [Net_roads_l4_s]
    unfold Net_roads_n4 Net_roads_n26
    refine ok_t (nI_le (Nat.le_refl n) (by omega)) (ok_s ?_)
    have := sm_small (adj := adj) hn
    rw [half_nI (by omega)]; rfl
theorem M_roads_s {n : Nat} {road : Nat → Int32} {adj : Nat → Nat → Bool} (hn : n ≤ 32) (hb : Mb road adj) : M_roads (nI n) road = some (nI (roadsN adj n)) := by
  unfold M_roads
  apply ok_eq
  refine loop_ok (fun F (s : Int32 × Int32) => M_roads_l4 (nI n) road F s.1 s.2) (fun i s => s = (nI (fb_sm (deg adj n) i), nI i)) n (fuel_big (by omega)) ?_ ?_ 0 (Nat.zero_le _) (0, 0) rfl
  · rintro i hi s rfl F ih
    show Ok (M_roads_l4 (nI n) road (F + 1) (nI _) (nI i)) _
    rw [M_roads_l4_s]
    unfold M_roads_n4
    refine ok_f (nI_ge hi (by omega)) (ok_e (M_fullness_s hn hb (by omega)) ?_)
    exact ih (nI (fb_sm (deg adj n) i) + nI (deg adj n i), nI i + 1) (by rw [nI_1, nI_add, fb_sm_succ])
  · rintro s rfl F
    show Ok (M_roads_l4 (nI n) road (F + 1) (nI _) (nI n)) _
    rw [M_roads_l4_s]
    unfold M_roads_n4 M_roads_n26
    refine ok_t (nI_le (Nat.le_refl n) (by omega)) (ok_s ?_)
    have := sm_small (adj := adj) hn
    rw [half_nI (by omega)]; rfl
/-! even -/
def evenN (adj : Nat → Nat → Bool) (n : Nat) : Bool := decide (∀ p, p < n → deg adj n p = deg adj n 0)
theorem Net_isEven_s {n : Nat} {near : Nat → Int32} {adj : Nat → Nat → Bool} (hw : WF n adj) (hb : Lb near adj) : Net_isEven (nI n) near = some (bI (evenN adj n)) := by
  have hn := hw.1
  unfold Net_isEven
  apply ok_eq
  by_cases h0 : n = 0
  · subst h0
    show Ok (Net_isEven_l2 (nI 0) near (4294967295 + 1) 1) _
    rw [Net_isEven_l2_s]
    unfold Net_isEven_n2 Net_isEven_n31
    refine ok_t (by decide) (ok_s ?_)
    unfold evenN
    rw [decide_eq_true (fun p hp => absurd hp (Nat.not_lt_zero p))]; rfl
  · refine loop_ok (fun F (s : Int32) => Net_isEven_l2 (nI n) near F s) (fun i s => s = nI i ∧ ∀ p, p < i → deg adj n p = deg adj n 0) n (fuel_big (by omega)) ?_ ?_ 1 (by omega) 1 ⟨rfl, fun p hp => by rw [show p = 0 by omega]⟩
    · rintro i hi s ⟨rfl, hd⟩ F ih
      show Ok (Net_isEven_l2 (nI n) near (F + 1) (nI i)) _
      rw [Net_isEven_l2_s]
      unfold Net_isEven_n2 Net_isEven_n23
      refine ok_f (nI_ge hi (by omega)) (ok_e (Net_fullness_s hw hb (by omega)) (ok_e (Net_fullness_s (p := 0) hw hb (by omega)) ?_))
      have d1 := deg_le adj n i
      have d2 := deg_le adj n 0
      refine ok_i (fun c => ?_) (fun c => ok_s ?_)
      · refine ih (nI i + 1) ⟨nI_1 i, fun p hp => ?_⟩
        by_cases e : p = i
        · subst e; exact (nI_eq (by omega) (by omega)).mp c
        · exact hd p (by omega)
      · unfold evenN
        rw [decide_eq_false (fun q => c (by rw [q i hi]))]; rfl
    · rintro s ⟨rfl, hd⟩ F
      show Ok (Net_isEven_l2 (nI n) near (F + 1) (nI n)) _
      rw [Net_isEven_l2_s]
      unfold Net_isEven_n2 Net_isEven_n31
      refine ok_t (nI_le (Nat.le_refl n) (by omega)) (ok_s ?_)
      unfold evenN
      rw [decide_eq_true hd]; rfl
theorem M_isEven_s {n : Nat} {road : Nat → Int32} {adj : Nat → Nat → Bool} (hn : n ≤ 32) (hb : Mb road adj) : M_isEven (nI n) road = some (bI (evenN adj n)) := by
  unfold M_isEven
  apply ok_eq
  by_cases h0 : n = 0
  · subst h0
    show Ok (M_isEven_l4 (nI 0) road (4294967295 + 1) 1 1) _
    rw [M_isEven_l4_s]
    unfold M_isEven_n4 M_isEven_n41
    refine ok_t (by decide) (ok_g rfl (ok_s ?_))
    unfold evenN
    rw [decide_eq_true (fun p hp => absurd hp (Nat.not_lt_zero p))]; rfl
  · refine loop_ok (fun F (s : Int32 × Int32) => M_isEven_l4 (nI n) road F s.1 s.2) (fun i s => s = (bI (decide (∀ p, p < i → deg adj n p = deg adj n 0)), nI i)) n (fuel_big (by omega)) ?_ ?_ 1 (by omega) (1, 1) ?_
    · rintro i hi s rfl F ih
      show Ok (M_isEven_l4 (nI n) road (F + 1) (bI _) (nI i)) _
      rw [M_isEven_l4_s]
      unfold M_isEven_n4 M_isEven_n33 M_isEven_n34
      refine ok_f (nI_ge hi (by omega)) ?_
      by_cases hd : ∀ p, p < i → deg adj n p = deg adj n 0
      · rw [decide_eq_true hd]
        refine ok_f (by decide) (ok_e (M_fullness_s hn hb (by omega)) (ok_e (M_fullness_s (p := 0) hn hb (by omega)) ?_))
        have d1 := deg_le adj n i
        have d2 := deg_le adj n 0
        refine ok_i (fun c => ih (1, nI i + 1) ?_) (fun c => ih (0, nI i + 1) ?_)
        · rw [nI_1, decide_eq_true (fun p hp => by
            by_cases e : p = i
            · subst e; exact (nI_eq (by omega) (by omega)).mp c
            · exact hd p (by omega))]; rfl
        · rw [nI_1, decide_eq_false (fun q => c (by rw [q i (by omega)]))]; rfl
      · rw [decide_eq_false hd]
        refine ok_t (by decide) (ih (0, nI i + 1) ?_)
        rw [nI_1, decide_eq_false (fun q => hd (fun p hp => q p (by omega)))]; rfl
    · rintro s rfl F
      show Ok (M_isEven_l4 (nI n) road (F + 1) (bI _) (nI n)) _
      rw [M_isEven_l4_s]
      unfold M_isEven_n4 M_isEven_n41
      exact ok_t (nI_le (Nat.le_refl n) (by omega)) (ok_g (isb_bI _) (ok_s rfl))
    · rw [decide_eq_true (fun p hp => by rw [show p = 0 by omega])]; rfl
