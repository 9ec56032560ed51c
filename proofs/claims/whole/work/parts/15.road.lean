/-- road(p, q, on): the class -/
theorem LN_road_s {x y : Int32} {v : Bool} {n : Nat} {a b c d : Int32} {near : Nat → Int32} {adj : Nat → Nat → Bool} (hw : WF n adj) (hb : Lb near adj) :
    (inb x n && inb y n && !decide (x = y)) = false ∧ LN_road x y (bI v) a (nI n) b c d near = some (-1, a, b, c, d, near) ∨
    ∃ p q : Nat, x = nI p ∧ y = nI q ∧ p < n ∧ q < n ∧ p ≠ q ∧ ((adj p q = v ∧ LN_road x y (bI v) a (nI n) b c d near = some (0, a, b, c, d, near)) ∨ (adj p q ≠ v ∧ ∃ w, LN_road x y (bI v) a (nI n) b c d near = some (1, 0, 0, -1, 0, w) ∧ Lb w (setA adj p q v))) := by
  obtain ⟨hn, hs, hi, hr⟩ := hw
  unfold LN_road
  rw [bnd_at (Net_mayJoin_s (by omega))]
  cases hm : (inb x n && inb y n && !decide (x = y))
  · exact Or.inl ⟨rfl, by rw [if_pos (by decide)]⟩
  · right
    rw [Bool.and_eq_true, Bool.and_eq_true] at hm
    obtain ⟨p, hp, rfl⟩ := inb_of hm.1.1 (by omega)
    obtain ⟨q, hq, rfl⟩ := inb_of hm.1.2 (by omega)
    have hpq : p ≠ q := by
      have := hm.2
      simp only [Bool.not_eq_true', decide_eq_false_iff_not] at this
      exact (nI_ne (by omega) (by omega)).mp this
    refine ⟨p, q, rfl, rfl, hp, hq, hpq, ?_⟩
    rw [if_neg (by decide), bnd_at (Net_areJoined_s hn hb), inb_nI hp (by omega), inb_nI hq (by omega), cl_nI (by omega), cl_nI (by omega), Bool.true_and, Bool.true_and]
    by_cases e : adj p q = v
    · exact Or.inl ⟨e, by rw [if_pos (by rw [e])]⟩
    · refine Or.inr ⟨e, ?_⟩
      rw [if_neg (fun q9 => e (bI_inj.mp q9))]
      cases v
      · rw [if_pos (by decide)]
        obtain ⟨w, e1, h1⟩ := Net_part_s hn hp hq hpq hb
        exact ⟨w, by rw [bnd_at e1]; rfl, h1⟩
      · rw [if_neg (by decide)]
        obtain ⟨w, e1, h1⟩ := Net_join_s hn hp hq hpq hb
        exact ⟨w, by rw [bnd_at e1]; rfl, h1⟩
/-- road(p, q, on): the model -/
theorem M_road_s {x y : Int32} {v : Bool} {n : Nat} {a b : Int32} {road : Nat → Int32} {adj : Nat → Nat → Bool} (hw : WF n adj) (hb : Mb road adj) :
    ((inb x n && inb y n && !decide (x = y)) = false → M_road x y (bI v) a b (nI n) road = some (-1, a, b, road)) ∧
    (∀ p q : Nat, x = nI p → y = nI q → p < n → q < n → p ≠ q → ∃ w, M_road x y (bI v) a b (nI n) road = some (bI (adj p q != v), 0, 0, w) ∧ Mb w (setA adj p q v)) := by
  obtain ⟨hn, hs, hi, hr⟩ := hw
  unfold M_road M_road_n21 M_road_n38
  rw [bnd_at (M_isPost_s (by omega))]
  refine ⟨fun h => ?_, ?_⟩
  · cases hx : inb x n
    · rw [if_pos (by decide)]
    · rw [if_neg (by decide), bnd_at (M_isPost_s (by omega))]
      cases hy : inb y n
      · rw [if_pos (by decide)]
      · rw [if_neg (by decide)]
        rw [hx, hy] at h
        have e : x = y := by simpa using h
        rw [if_pos e]
  · rintro p q rfl rfl hp hq hpq
    obtain ⟨z, e1, h1, h2, h3, h4⟩ := M_lay_s (k1 := a) (k2 := b) (v := v) (show p < 32 by omega) (show q < 32 by omega) hb
    refine ⟨z.2.2.2, ?_, h4⟩
    rw [inb_nI hp (by omega), if_neg (by decide), bnd_at (M_isPost_s (by omega)), inb_nI hq (by omega), if_neg (by decide), if_neg ((nI_ne (by omega) (by omega)).mpr hpq), bnd_at e1, h1, h2, h3]
    cases (adj p q != v)
    · rw [if_pos (by decide)]; rfl
    · rw [if_neg (by decide)]; rfl
