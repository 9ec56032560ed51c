
/-! the sheets -/
theorem ISh_fr {r : Nat} {t k s : Int32} {cl ce ki si ce' ki' si' : Nat → Int32} (h : ISh r t k s cl ce ki si) (h1 : si' r = si r) (h2 : ki' r = ki r) (h3 : ∀ i, i < 60 → ce' (60 * r + i) = ce (60 * r + i)) : ISh r t k s cl ce' ki' si' := by
  obtain ⟨m, hm, e, h⟩ := h
  refine ⟨m, hm, e, ?_⟩
  rcases h with ⟨a, b⟩ | ⟨a, b, c, d⟩
  · exact Or.inl ⟨a, h1.trans b⟩
  · exact Or.inr ⟨a, h1.trans b, h2.trans c, fun i hi => (h3 i (by omega)).trans (d i hi)⟩
theorem inb4 {x : Int32} (h0 : ¬ x = 0) (h1 : ¬ x = 1) (h2 : ¬ x = 2) (h3 : ¬ x = 3) : inb x 4 = false := by
  cases h : inb x 4
  · rfl
  · obtain ⟨j, hj, e⟩ := inb_of h (by omega)
    rcases (show j = 0 ∨ j = 1 ∨ j = 2 ∨ j = 3 by omega) with rfl | rfl | rfl | rfl
    · exact absurd e h0
    · exact absurd e h1
    · exact absurd e h2
    · exact absurd e h3
theorem ldA_cong {adj : Nat → Nat → Bool} {c c2 : Nat → Int32} {a : Nat} : ∀ {b : Nat}, (∀ k, k < b → c (a + 2 * k) = c2 (a + 2 * k) ∧ c (a + 2 * k + 1) = c2 (a + 2 * k + 1)) → ldA adj c a b = ldA adj c2 a b := by
  intro b
  induction b with
  | zero => intro _; rfl
  | succ b ih =>
    intro h
    show setA (ldA adj c a b) _ _ true = setA (ldA adj c2 a b) _ _ true
    rw [ih (fun k hk => h k (by omega)), (h b (by omega)).1, (h b (by omega)).2]
theorem ldOk_cong {x2 x3 : Int32} {n m : Nat} {c c2 : Nat → Int32} (e : ∀ i, i < m → c i = c2 i) (h : ldOk x2 x3 n m c) : ldOk x2 x3 n m c2 := by
  obtain ⟨a, b, e1, e2, hm, h⟩ := h
  refine ⟨a, b, e1, e2, hm, fun k hk => ?_⟩
  rw [← e (a + 2 * k) (by omega), ← e (a + 2 * k + 1) (by omega)]
  exact h k hk
theorem op_sheet0 (σ : St) (x2 x3 : Int32) (h : Inv σ) : ∃ (q : Int32) (σ1 σ2 : St), eL_sheet 0 x2 x3 σ q σ1 ∧ eM_sheet 0 x2 x3 σ1 q σ2 ∧ Inv σ2 := by
  obtain ⟨⟨s0, s1, s2, s3⟩, hK, hN, hT⟩ := h
  have h1 := LN_sheet_s0_s x2 x3 (σ.1 131) (σ.1 130) (σ.1 129) (σ.2.2.1 3)
  obtain ⟨⟨v0, v1, v2, v3⟩, ev, hv⟩ := M_sheet_r (r := 0) (by decide) x2 x3 (σ.2.2.1 53) (σ.2.2.1 51) (σ.2.2.1 52)
  have hv2 : if spSheet x2 x3 = 1 then v0 = 1 ∧ v2 = upd (σ.2.2.1 51) 0 x2 ∧ v3 = upd (σ.2.2.1 52) 0 x3 ∧ (∀ i, i < x3.toNatClampNeg → v1 (60 * 0 + i) = 0) ∧ (∀ j, (j < 60 * 0 ∨ 60 * 0 + 60 ≤ j) → v1 j = σ.2.2.1 53 j) else (v0, v1, v2, v3) = (spSheet x2 x3, σ.2.2.1 53, σ.2.2.1 51, σ.2.2.1 52) := hv
  by_cases g : spSheet x2 x3 = 1
  · rw [if_pos g] at h1 hv2
    obtain ⟨k, m, hk, hm, ek, em⟩ := spSheet_1 g
    obtain ⟨p0, p1, p2, p3, p4⟩ := hv2
    rw [p0] at ev
    exact ⟨1, _, _, Or.inl ⟨rfl, _, _, _, _, h1, rfl⟩, ⟨v1, v2, v3, ev, rfl⟩, ⟨⟨m, hm, em, Or.inr ⟨rfl, (congrFun p2 0).trans (updS.trans em), (congrFun p1 0).trans updS, fun i hi => (p3 i (by rw [em, cl_nI (by omega)]; exact hi)).trans (show (0 : Int32) = fa_fill (fun _ => 0) (σ.2.2.1 3) 60 i from (fa_fill_in (f := fun _ => (0 : Int32)) (show i < 60 by omega)).symm)⟩⟩, ISh_fr s1 ((congrFun p2 1).trans (updN (by decide))) ((congrFun p1 1).trans (updN (by decide))) (fun i hi => p4 _ (by omega)), ISh_fr s2 ((congrFun p2 2).trans (updN (by decide))) ((congrFun p1 2).trans (updN (by decide))) (fun i hi => p4 _ (by omega)), ISh_fr s3 ((congrFun p2 3).trans (updN (by decide))) ((congrFun p1 3).trans (updN (by decide))) (fun i hi => p4 _ (by omega))⟩, hK, hN, hT⟩
  · rw [if_neg g] at h1 hv2
    cases hv2
    exact ⟨_, _, _, Or.inl ⟨rfl, _, _, _, _, h1, rfl⟩, ⟨_, _, _, ev, rfl⟩, ⟨s0, s1, s2, s3⟩, hK, hN, hT⟩
theorem op_cell0 (σ : St) (x2 x3 : Int32) (h : Inv σ) : ∃ (q : Int32) (σ1 σ2 : St), eL_cell 0 x2 x3 σ q σ1 ∧ eM_cell 0 x2 x3 σ1 q σ2 ∧ Inv σ2 := by
  obtain ⟨⟨s0, s1, s2, s3⟩, hK, hN, hT⟩ := h
  have s0' := s0
  obtain ⟨m, hm, e, hh⟩ := s0
  have h1 := LN_cell_s0_s (x2 := x2) (x3 := x3) (k := σ.1 130) (t := σ.1 129) hm (σ.2.2.1 3)
  rw [← e] at h1
  rcases hh with ⟨a, b⟩ | ⟨a, b, c', f⟩
  · rw [if_pos a] at h1
    have h2 := M_cell_m (r := 0) (by decide) x2 x3 (ce := σ.2.2.1 53) (ki := σ.2.2.1 51) b
    exact ⟨_, _, _, Or.inl ⟨rfl, _, h1, rfl⟩, ⟨_, h2, rfl⟩, ⟨s0', s1, s2, s3⟩, hK, hN, hT⟩
  · rw [if_neg (by rw [a]; decide)] at h1
    have h2 := M_cell_r (r := 0) (by decide) hm x2 x3 (ce := σ.2.2.1 53) (ki := σ.2.2.1 51) b
    by_cases g : inb x2 m = true
    · rw [if_pos g] at h1 h2
      obtain ⟨j, hj, rfl⟩ := inb_of g (by omega)
      rw [cl_nI (by omega)] at h1 h2
      refine ⟨_, _, _, Or.inl ⟨rfl, _, h1, rfl⟩, ⟨_, h2, rfl⟩, ⟨⟨m, hm, e, Or.inr ⟨a, b, c', fun i hi => ?_⟩⟩, ISh_fr s1 rfl rfl (fun i hi => (show upd (σ.2.2.1 53) (60 * 0 + j) (spCast (σ.2.2.1 51 0) x3) (60 * 1 + i) = (σ.2.2.1 53) (60 * 1 + i) from updN (by omega))), ISh_fr s2 rfl rfl (fun i hi => (show upd (σ.2.2.1 53) (60 * 0 + j) (spCast (σ.2.2.1 51 0) x3) (60 * 2 + i) = (σ.2.2.1 53) (60 * 2 + i) from updN (by omega))), ISh_fr s3 rfl rfl (fun i hi => (show upd (σ.2.2.1 53) (60 * 0 + j) (spCast (σ.2.2.1 51 0) x3) (60 * 3 + i) = (σ.2.2.1 53) (60 * 3 + i) from updN (by omega)))⟩, hK, hN, hT⟩
      show upd (σ.2.2.1 53) (60 * 0 + j) (spCast (σ.2.2.1 51 0) x3) (60 * 0 + i) = upd (σ.2.2.1 3) j (spCast (σ.1 130) x3) i
      by_cases ij : i = j
      · rw [ij, updS, updS, c']
      · rw [updN ij, updN (by omega)]
        exact f i hi
    · rw [if_neg g] at h1 h2
      exact ⟨_, _, _, Or.inl ⟨rfl, _, h1, rfl⟩, ⟨_, h2, rfl⟩, ⟨s0', s1, s2, s3⟩, hK, hN, hT⟩
theorem op_lose0 (σ : St) (h : Inv σ) : ∃ (q : Int32) (σ1 σ2 : St), eL_lose 0 σ q σ1 ∧ eM_lose 0 σ1 q σ2 ∧ Inv σ2 := by
  obtain ⟨⟨s0, s1, s2, s3⟩, hK, hN, hT⟩ := h
  have s0' := s0
  obtain ⟨m, hm, e, hh⟩ := s0
  have h1 := LN_lose_s0_s (σ.1 129)
  have h2 := M_lose_r (r := 0) (by decide) (σ.2.2.1 52)
  rcases hh with ⟨a, b⟩ | ⟨a, b, c', f⟩
  · rw [if_pos a] at h1
    rw [if_neg (by rw [b]; decide)] at h2
    exact ⟨_, _, _, Or.inl ⟨rfl, _, h1, rfl⟩, ⟨_, h2, rfl⟩, ⟨s0', s1, s2, s3⟩, hK, hN, hT⟩
  · rw [if_neg (by rw [a]; decide)] at h1
    rw [if_pos (by rw [b]; exact nI_le (Nat.zero_le _) (by omega))] at h2
    exact ⟨_, _, _, Or.inl ⟨rfl, _, h1, rfl⟩, ⟨_, h2, rfl⟩, ⟨⟨m, hm, e, Or.inl ⟨rfl, (show upd (σ.2.2.1 52) 0 (-1) 0 = -1 from updS)⟩⟩, ISh_fr s1 (show upd (σ.2.2.1 52) 0 (-1) 1 = (σ.2.2.1 52) 1 from updN (by decide)) rfl (fun i hi => rfl), ISh_fr s2 (show upd (σ.2.2.1 52) 0 (-1) 2 = (σ.2.2.1 52) 2 from updN (by decide)) rfl (fun i hi => rfl), ISh_fr s3 (show upd (σ.2.2.1 52) 0 (-1) 3 = (σ.2.2.1 52) 3 from updN (by decide)) rfl (fun i hi => rfl)⟩, hK, hN, hT⟩
theorem op_load0 (σ : St) (x2 x3 : Int32) (h : Inv σ) : ∃ (q : Int32) (σ1 σ2 : St), eL_load 0 x2 x3 σ q σ1 ∧ eM_load 0 x2 x3 σ1 q σ2 ∧ Inv σ2 := by
  obtain ⟨⟨s0, s1, s2, s3⟩, hK, ⟨n, adj, hw, ⟨e1, hb, hc, hs, hp⟩, e2, hb2, hc2, hp2⟩, hT⟩ := h
  have s0' := s0
  obtain ⟨m, hm, e, hh⟩ := s0
  rcases hh with ⟨a, b⟩ | ⟨a, b, c', f⟩
  · have h1 := LN_load_s0_m (x2 := x2) (x3 := x3) (lr := σ.1 1539) (ns := σ.1 641) (pr := σ.1 2632) (sr := σ.1 2372) (sz := σ.1 131) (wr := σ.1 1283) (nn := σ.2.2.1 11) (cells := σ.2.2.1 3) a
    have h2 := M_load_m (r := 0) (x2 := x2) (x3 := x3) (ak := σ.1 3238) (im := σ.1 3212) (ps := σ.1 3203) (ce := σ.2.2.1 53) (road := σ.2.2.1 54) (by decide) b
    exact ⟨_, _, _, Or.inl ⟨rfl, _, _, _, _, _, h1, rfl⟩, ⟨_, _, _, h2, rfl⟩, ⟨s0', s1, s2, s3⟩, hK, ⟨n, adj, hw, ⟨e1, hb, hc, hs, hp⟩, e2, hb2, hc2, hp2⟩, hT⟩
  · have ht : ¬ σ.1 129 = 0 := by rw [a]; decide
    by_cases g : ldOk x2 x3 n m (σ.2.2.1 3)
    · obtain ⟨p, q, rfl, rfl, hpq, hok⟩ := g
      have same : ∀ k, k < q → (σ.2.2.1 53) (60 * 0 + (p + 2 * k)) = (σ.2.2.1 3) (p + 2 * k) ∧ (σ.2.2.1 53) (60 * 0 + (p + 2 * k + 1)) = (σ.2.2.1 3) (p + 2 * k + 1) := fun k hk => ⟨f _ (by omega), f _ (by omega)⟩
      have hA : ldA adj (fun j => (σ.2.2.1 53) (60 * 0 + j)) p q = ldA adj (σ.2.2.1 3) p q := ldA_cong same
      have hl : Ok (LN_load_s0 (nI p) (nI q) (σ.1 1539) (σ.1 641) (σ.1 2632) (σ.1 2372) (σ.1 131) (σ.1 129) (σ.1 1283) (σ.2.2.1 11) (σ.2.2.1 3)) (fun z => z.1 = nI (roadsN (ldA adj (σ.2.2.1 3) p q) n) - nI (roadsN adj n) ∧ z.2.1 = 0 ∧ z.2.2.1 = 0 ∧ z.2.2.2.1 = -1 ∧ z.2.2.2.2.1 = 0 ∧ Lb z.2.2.2.2.2 (ldA adj (σ.2.2.1 3) p q)) := by rw [e1, e]; exact LN_load_s0_s hw hb hm ht hpq hok
      have hml : Ok (M_load (nI 0) (nI p) (nI q) (σ.1 3238) (σ.1 3212) (σ.1 3203) (σ.2.2.1 53) (σ.2.2.1 54) (σ.2.2.1 52)) (fun z => z.1 = nI (roadsN (ldA adj (fun j => (σ.2.2.1 53) (60 * 0 + j)) p q) n) - nI (roadsN adj n) ∧ ((q = 0 ∧ z.2.1 = (σ.1 3238) ∧ z.2.2.1 = (σ.1 3212)) ∨ (z.2.1 = 0 ∧ z.2.2.1 = 0)) ∧ Mb z.2.2.2 (ldA adj (fun j => (σ.2.2.1 53) (60 * 0 + j)) p q)) := by
        rw [e2]
        exact M_load_s (r := 0) (by decide) hw hb2 hm b hpq (fun k hk => by rw [(same k hk).1, (same k hk).2]; exact hok k hk)
      obtain ⟨⟨z0, z1, z2, z3, z4, z5⟩, ez, q0, q1, q2, q3, q4, q5⟩ := hl
      obtain ⟨⟨v0, v1, v2, v3⟩, ev, p0, p1, p2⟩ := hml
      rw [hA] at p0 p2
      have er : v0 = z0 := p0.trans q0.symm
      subst er
      have hWF : WF n (ldA adj (σ.2.2.1 3) p q) := ld_wf hw hok q (Nat.le_refl q)
      refine ⟨v0, _, _, Or.inl ⟨rfl, z1, z2, z3, z4, z5, ez, rfl⟩, ⟨v1, v2, v3, ev, rfl⟩, ⟨s0', s1, s2, s3⟩, hK, ⟨n, _, hWF, ⟨e1, q5, ⟨Or.inl q4, Or.inl q1⟩, Or.inl q3, Or.inl q2⟩, e2, p2, ?_, ?_⟩, hT⟩
      · rcases p1 with ⟨k0, _, k2⟩ | ⟨_, k2⟩
        · subst k0
          show MC (ldA adj (σ.2.2.1 3) p 0) n (σ.1 3214) (σ.1 3215) v2 (σ.2.2.1 59)
          rw [show v2 = σ.1 3212 from k2]
          exact hc2
        · exact Or.inl k2
      · rcases p1 with ⟨k0, k1, _⟩ | ⟨k1, _⟩
        · subst k0
          show PC (ldA adj (σ.2.2.1 3) p 0) n (σ.1 3242) v1 (σ.2.2.1 78)
          rw [show v1 = σ.1 3238 from k1]
          exact hp2
        · exact Or.inl k1
    · have h1 := LN_load_s0_b (lr := σ.1 1539) (pr := σ.1 2632) (sr := σ.1 2372) (wr := σ.1 1283) (nn := σ.2.2.1 11) hw.1 hm ht g
      have h2 := M_load_b (r := 0) (x2 := x2) (x3 := x3) (ak := σ.1 3238) (im := σ.1 3212) (ce := σ.2.2.1 53) (road := σ.2.2.1 54) (by decide) hw.1 hm b (fun h => g (ldOk_cong (fun i hi => f i hi) h))
      rw [← e1, ← e] at h1
      rw [← e2] at h2
      exact ⟨_, _, _, Or.inl ⟨rfl, _, _, _, _, _, h1, rfl⟩, ⟨_, _, _, h2, rfl⟩, ⟨s0', s1, s2, s3⟩, hK, ⟨n, adj, hw, ⟨e1, hb, hc, hs, hp⟩, e2, hb2, hc2, hp2⟩, hT⟩
theorem op_sheet1 (σ : St) (x2 x3 : Int32) (h : Inv σ) : ∃ (q : Int32) (σ1 σ2 : St), eL_sheet 1 x2 x3 σ q σ1 ∧ eM_sheet 1 x2 x3 σ1 q σ2 ∧ Inv σ2 := by
  obtain ⟨⟨s0, s1, s2, s3⟩, hK, hN, hT⟩ := h
  have h1 := LN_sheet_s1_s x2 x3 (σ.1 259) (σ.1 258) (σ.1 257) (σ.2.2.1 5)
  obtain ⟨⟨v0, v1, v2, v3⟩, ev, hv⟩ := M_sheet_r (r := 1) (by decide) x2 x3 (σ.2.2.1 53) (σ.2.2.1 51) (σ.2.2.1 52)
  have hv2 : if spSheet x2 x3 = 1 then v0 = 1 ∧ v2 = upd (σ.2.2.1 51) 1 x2 ∧ v3 = upd (σ.2.2.1 52) 1 x3 ∧ (∀ i, i < x3.toNatClampNeg → v1 (60 * 1 + i) = 0) ∧ (∀ j, (j < 60 * 1 ∨ 60 * 1 + 60 ≤ j) → v1 j = σ.2.2.1 53 j) else (v0, v1, v2, v3) = (spSheet x2 x3, σ.2.2.1 53, σ.2.2.1 51, σ.2.2.1 52) := hv
  by_cases g : spSheet x2 x3 = 1
  · rw [if_pos g] at h1 hv2
    obtain ⟨k, m, hk, hm, ek, em⟩ := spSheet_1 g
    obtain ⟨p0, p1, p2, p3, p4⟩ := hv2
    rw [p0] at ev
    exact ⟨1, _, _, Or.inr (Or.inl ⟨rfl, _, _, _, _, h1, rfl⟩), ⟨v1, v2, v3, ev, rfl⟩, ⟨ISh_fr s0 ((congrFun p2 0).trans (updN (by decide))) ((congrFun p1 0).trans (updN (by decide))) (fun i hi => p4 _ (by omega)), ⟨m, hm, em, Or.inr ⟨rfl, (congrFun p2 1).trans (updS.trans em), (congrFun p1 1).trans updS, fun i hi => (p3 i (by rw [em, cl_nI (by omega)]; exact hi)).trans (show (0 : Int32) = fa_fill (fun _ => 0) (σ.2.2.1 5) 60 i from (fa_fill_in (f := fun _ => (0 : Int32)) (show i < 60 by omega)).symm)⟩⟩, ISh_fr s2 ((congrFun p2 2).trans (updN (by decide))) ((congrFun p1 2).trans (updN (by decide))) (fun i hi => p4 _ (by omega)), ISh_fr s3 ((congrFun p2 3).trans (updN (by decide))) ((congrFun p1 3).trans (updN (by decide))) (fun i hi => p4 _ (by omega))⟩, hK, hN, hT⟩
  · rw [if_neg g] at h1 hv2
    cases hv2
    exact ⟨_, _, _, Or.inr (Or.inl ⟨rfl, _, _, _, _, h1, rfl⟩), ⟨_, _, _, ev, rfl⟩, ⟨s0, s1, s2, s3⟩, hK, hN, hT⟩
theorem op_cell1 (σ : St) (x2 x3 : Int32) (h : Inv σ) : ∃ (q : Int32) (σ1 σ2 : St), eL_cell 1 x2 x3 σ q σ1 ∧ eM_cell 1 x2 x3 σ1 q σ2 ∧ Inv σ2 := by
  obtain ⟨⟨s0, s1, s2, s3⟩, hK, hN, hT⟩ := h
  have s1' := s1
  obtain ⟨m, hm, e, hh⟩ := s1
  have h1 := LN_cell_s1_s (x2 := x2) (x3 := x3) (k := σ.1 258) (t := σ.1 257) hm (σ.2.2.1 5)
  rw [← e] at h1
  rcases hh with ⟨a, b⟩ | ⟨a, b, c', f⟩
  · rw [if_pos a] at h1
    have h2 := M_cell_m (r := 1) (by decide) x2 x3 (ce := σ.2.2.1 53) (ki := σ.2.2.1 51) b
    exact ⟨_, _, _, Or.inr (Or.inl ⟨rfl, _, h1, rfl⟩), ⟨_, h2, rfl⟩, ⟨s0, s1', s2, s3⟩, hK, hN, hT⟩
  · rw [if_neg (by rw [a]; decide)] at h1
    have h2 := M_cell_r (r := 1) (by decide) hm x2 x3 (ce := σ.2.2.1 53) (ki := σ.2.2.1 51) b
    by_cases g : inb x2 m = true
    · rw [if_pos g] at h1 h2
      obtain ⟨j, hj, rfl⟩ := inb_of g (by omega)
      rw [cl_nI (by omega)] at h1 h2
      refine ⟨_, _, _, Or.inr (Or.inl ⟨rfl, _, h1, rfl⟩), ⟨_, h2, rfl⟩, ⟨ISh_fr s0 rfl rfl (fun i hi => (show upd (σ.2.2.1 53) (60 * 1 + j) (spCast (σ.2.2.1 51 1) x3) (60 * 0 + i) = (σ.2.2.1 53) (60 * 0 + i) from updN (by omega))), ⟨m, hm, e, Or.inr ⟨a, b, c', fun i hi => ?_⟩⟩, ISh_fr s2 rfl rfl (fun i hi => (show upd (σ.2.2.1 53) (60 * 1 + j) (spCast (σ.2.2.1 51 1) x3) (60 * 2 + i) = (σ.2.2.1 53) (60 * 2 + i) from updN (by omega))), ISh_fr s3 rfl rfl (fun i hi => (show upd (σ.2.2.1 53) (60 * 1 + j) (spCast (σ.2.2.1 51 1) x3) (60 * 3 + i) = (σ.2.2.1 53) (60 * 3 + i) from updN (by omega)))⟩, hK, hN, hT⟩
      show upd (σ.2.2.1 53) (60 * 1 + j) (spCast (σ.2.2.1 51 1) x3) (60 * 1 + i) = upd (σ.2.2.1 5) j (spCast (σ.1 258) x3) i
      by_cases ij : i = j
      · rw [ij, updS, updS, c']
      · rw [updN ij, updN (by omega)]
        exact f i hi
    · rw [if_neg g] at h1 h2
      exact ⟨_, _, _, Or.inr (Or.inl ⟨rfl, _, h1, rfl⟩), ⟨_, h2, rfl⟩, ⟨s0, s1', s2, s3⟩, hK, hN, hT⟩
theorem op_lose1 (σ : St) (h : Inv σ) : ∃ (q : Int32) (σ1 σ2 : St), eL_lose 1 σ q σ1 ∧ eM_lose 1 σ1 q σ2 ∧ Inv σ2 := by
  obtain ⟨⟨s0, s1, s2, s3⟩, hK, hN, hT⟩ := h
  have s1' := s1
  obtain ⟨m, hm, e, hh⟩ := s1
  have h1 := LN_lose_s1_s (σ.1 257)
  have h2 := M_lose_r (r := 1) (by decide) (σ.2.2.1 52)
  rcases hh with ⟨a, b⟩ | ⟨a, b, c', f⟩
  · rw [if_pos a] at h1
    rw [if_neg (by rw [b]; decide)] at h2
    exact ⟨_, _, _, Or.inr (Or.inl ⟨rfl, _, h1, rfl⟩), ⟨_, h2, rfl⟩, ⟨s0, s1', s2, s3⟩, hK, hN, hT⟩
  · rw [if_neg (by rw [a]; decide)] at h1
    rw [if_pos (by rw [b]; exact nI_le (Nat.zero_le _) (by omega))] at h2
    exact ⟨_, _, _, Or.inr (Or.inl ⟨rfl, _, h1, rfl⟩), ⟨_, h2, rfl⟩, ⟨ISh_fr s0 (show upd (σ.2.2.1 52) 1 (-1) 0 = (σ.2.2.1 52) 0 from updN (by decide)) rfl (fun i hi => rfl), ⟨m, hm, e, Or.inl ⟨rfl, (show upd (σ.2.2.1 52) 1 (-1) 1 = -1 from updS)⟩⟩, ISh_fr s2 (show upd (σ.2.2.1 52) 1 (-1) 2 = (σ.2.2.1 52) 2 from updN (by decide)) rfl (fun i hi => rfl), ISh_fr s3 (show upd (σ.2.2.1 52) 1 (-1) 3 = (σ.2.2.1 52) 3 from updN (by decide)) rfl (fun i hi => rfl)⟩, hK, hN, hT⟩
theorem op_load1 (σ : St) (x2 x3 : Int32) (h : Inv σ) : ∃ (q : Int32) (σ1 σ2 : St), eL_load 1 x2 x3 σ q σ1 ∧ eM_load 1 x2 x3 σ1 q σ2 ∧ Inv σ2 := by
  obtain ⟨⟨s0, s1, s2, s3⟩, hK, ⟨n, adj, hw, ⟨e1, hb, hc, hs, hp⟩, e2, hb2, hc2, hp2⟩, hT⟩ := h
  have s1' := s1
  obtain ⟨m, hm, e, hh⟩ := s1
  rcases hh with ⟨a, b⟩ | ⟨a, b, c', f⟩
  · have h1 := LN_load_s1_m (x2 := x2) (x3 := x3) (lr := σ.1 1539) (ns := σ.1 641) (pr := σ.1 2632) (sr := σ.1 2372) (sz := σ.1 259) (wr := σ.1 1283) (nn := σ.2.2.1 11) (cells := σ.2.2.1 5) a
    have h2 := M_load_m (r := 1) (x2 := x2) (x3 := x3) (ak := σ.1 3238) (im := σ.1 3212) (ps := σ.1 3203) (ce := σ.2.2.1 53) (road := σ.2.2.1 54) (by decide) b
    exact ⟨_, _, _, Or.inr (Or.inl ⟨rfl, _, _, _, _, _, h1, rfl⟩), ⟨_, _, _, h2, rfl⟩, ⟨s0, s1', s2, s3⟩, hK, ⟨n, adj, hw, ⟨e1, hb, hc, hs, hp⟩, e2, hb2, hc2, hp2⟩, hT⟩
  · have ht : ¬ σ.1 257 = 0 := by rw [a]; decide
    by_cases g : ldOk x2 x3 n m (σ.2.2.1 5)
    · obtain ⟨p, q, rfl, rfl, hpq, hok⟩ := g
      have same : ∀ k, k < q → (σ.2.2.1 53) (60 * 1 + (p + 2 * k)) = (σ.2.2.1 5) (p + 2 * k) ∧ (σ.2.2.1 53) (60 * 1 + (p + 2 * k + 1)) = (σ.2.2.1 5) (p + 2 * k + 1) := fun k hk => ⟨f _ (by omega), f _ (by omega)⟩
      have hA : ldA adj (fun j => (σ.2.2.1 53) (60 * 1 + j)) p q = ldA adj (σ.2.2.1 5) p q := ldA_cong same
      have hl : Ok (LN_load_s1 (nI p) (nI q) (σ.1 1539) (σ.1 641) (σ.1 2632) (σ.1 2372) (σ.1 259) (σ.1 257) (σ.1 1283) (σ.2.2.1 11) (σ.2.2.1 5)) (fun z => z.1 = nI (roadsN (ldA adj (σ.2.2.1 5) p q) n) - nI (roadsN adj n) ∧ z.2.1 = 0 ∧ z.2.2.1 = 0 ∧ z.2.2.2.1 = -1 ∧ z.2.2.2.2.1 = 0 ∧ Lb z.2.2.2.2.2 (ldA adj (σ.2.2.1 5) p q)) := by rw [e1, e]; exact LN_load_s1_s hw hb hm ht hpq hok
      have hml : Ok (M_load (nI 1) (nI p) (nI q) (σ.1 3238) (σ.1 3212) (σ.1 3203) (σ.2.2.1 53) (σ.2.2.1 54) (σ.2.2.1 52)) (fun z => z.1 = nI (roadsN (ldA adj (fun j => (σ.2.2.1 53) (60 * 1 + j)) p q) n) - nI (roadsN adj n) ∧ ((q = 0 ∧ z.2.1 = (σ.1 3238) ∧ z.2.2.1 = (σ.1 3212)) ∨ (z.2.1 = 0 ∧ z.2.2.1 = 0)) ∧ Mb z.2.2.2 (ldA adj (fun j => (σ.2.2.1 53) (60 * 1 + j)) p q)) := by
        rw [e2]
        exact M_load_s (r := 1) (by decide) hw hb2 hm b hpq (fun k hk => by rw [(same k hk).1, (same k hk).2]; exact hok k hk)
      obtain ⟨⟨z0, z1, z2, z3, z4, z5⟩, ez, q0, q1, q2, q3, q4, q5⟩ := hl
      obtain ⟨⟨v0, v1, v2, v3⟩, ev, p0, p1, p2⟩ := hml
      rw [hA] at p0 p2
      have er : v0 = z0 := p0.trans q0.symm
      subst er
      have hWF : WF n (ldA adj (σ.2.2.1 5) p q) := ld_wf hw hok q (Nat.le_refl q)
      refine ⟨v0, _, _, Or.inr (Or.inl ⟨rfl, z1, z2, z3, z4, z5, ez, rfl⟩), ⟨v1, v2, v3, ev, rfl⟩, ⟨s0, s1', s2, s3⟩, hK, ⟨n, _, hWF, ⟨e1, q5, ⟨Or.inl q4, Or.inl q1⟩, Or.inl q3, Or.inl q2⟩, e2, p2, ?_, ?_⟩, hT⟩
      · rcases p1 with ⟨k0, _, k2⟩ | ⟨_, k2⟩
        · subst k0
          show MC (ldA adj (σ.2.2.1 5) p 0) n (σ.1 3214) (σ.1 3215) v2 (σ.2.2.1 59)
          rw [show v2 = σ.1 3212 from k2]
          exact hc2
        · exact Or.inl k2
      · rcases p1 with ⟨k0, k1, _⟩ | ⟨k1, _⟩
        · subst k0
          show PC (ldA adj (σ.2.2.1 5) p 0) n (σ.1 3242) v1 (σ.2.2.1 78)
          rw [show v1 = σ.1 3238 from k1]
          exact hp2
        · exact Or.inl k1
    · have h1 := LN_load_s1_b (lr := σ.1 1539) (pr := σ.1 2632) (sr := σ.1 2372) (wr := σ.1 1283) (nn := σ.2.2.1 11) hw.1 hm ht g
      have h2 := M_load_b (r := 1) (x2 := x2) (x3 := x3) (ak := σ.1 3238) (im := σ.1 3212) (ce := σ.2.2.1 53) (road := σ.2.2.1 54) (by decide) hw.1 hm b (fun h => g (ldOk_cong (fun i hi => f i hi) h))
      rw [← e1, ← e] at h1
      rw [← e2] at h2
      exact ⟨_, _, _, Or.inr (Or.inl ⟨rfl, _, _, _, _, _, h1, rfl⟩), ⟨_, _, _, h2, rfl⟩, ⟨s0, s1', s2, s3⟩, hK, ⟨n, adj, hw, ⟨e1, hb, hc, hs, hp⟩, e2, hb2, hc2, hp2⟩, hT⟩
theorem op_sheet2 (σ : St) (x2 x3 : Int32) (h : Inv σ) : ∃ (q : Int32) (σ1 σ2 : St), eL_sheet 2 x2 x3 σ q σ1 ∧ eM_sheet 2 x2 x3 σ1 q σ2 ∧ Inv σ2 := by
  obtain ⟨⟨s0, s1, s2, s3⟩, hK, hN, hT⟩ := h
  have h1 := LN_sheet_s2_s x2 x3 (σ.1 387) (σ.1 386) (σ.1 385) (σ.2.2.1 7)
  obtain ⟨⟨v0, v1, v2, v3⟩, ev, hv⟩ := M_sheet_r (r := 2) (by decide) x2 x3 (σ.2.2.1 53) (σ.2.2.1 51) (σ.2.2.1 52)
  have hv2 : if spSheet x2 x3 = 1 then v0 = 1 ∧ v2 = upd (σ.2.2.1 51) 2 x2 ∧ v3 = upd (σ.2.2.1 52) 2 x3 ∧ (∀ i, i < x3.toNatClampNeg → v1 (60 * 2 + i) = 0) ∧ (∀ j, (j < 60 * 2 ∨ 60 * 2 + 60 ≤ j) → v1 j = σ.2.2.1 53 j) else (v0, v1, v2, v3) = (spSheet x2 x3, σ.2.2.1 53, σ.2.2.1 51, σ.2.2.1 52) := hv
  by_cases g : spSheet x2 x3 = 1
  · rw [if_pos g] at h1 hv2
    obtain ⟨k, m, hk, hm, ek, em⟩ := spSheet_1 g
    obtain ⟨p0, p1, p2, p3, p4⟩ := hv2
    rw [p0] at ev
    exact ⟨1, _, _, Or.inr (Or.inr (Or.inl ⟨rfl, _, _, _, _, h1, rfl⟩)), ⟨v1, v2, v3, ev, rfl⟩, ⟨ISh_fr s0 ((congrFun p2 0).trans (updN (by decide))) ((congrFun p1 0).trans (updN (by decide))) (fun i hi => p4 _ (by omega)), ISh_fr s1 ((congrFun p2 1).trans (updN (by decide))) ((congrFun p1 1).trans (updN (by decide))) (fun i hi => p4 _ (by omega)), ⟨m, hm, em, Or.inr ⟨rfl, (congrFun p2 2).trans (updS.trans em), (congrFun p1 2).trans updS, fun i hi => (p3 i (by rw [em, cl_nI (by omega)]; exact hi)).trans (show (0 : Int32) = fa_fill (fun _ => 0) (σ.2.2.1 7) 60 i from (fa_fill_in (f := fun _ => (0 : Int32)) (show i < 60 by omega)).symm)⟩⟩, ISh_fr s3 ((congrFun p2 3).trans (updN (by decide))) ((congrFun p1 3).trans (updN (by decide))) (fun i hi => p4 _ (by omega))⟩, hK, hN, hT⟩
  · rw [if_neg g] at h1 hv2
    cases hv2
    exact ⟨_, _, _, Or.inr (Or.inr (Or.inl ⟨rfl, _, _, _, _, h1, rfl⟩)), ⟨_, _, _, ev, rfl⟩, ⟨s0, s1, s2, s3⟩, hK, hN, hT⟩
theorem op_cell2 (σ : St) (x2 x3 : Int32) (h : Inv σ) : ∃ (q : Int32) (σ1 σ2 : St), eL_cell 2 x2 x3 σ q σ1 ∧ eM_cell 2 x2 x3 σ1 q σ2 ∧ Inv σ2 := by
  obtain ⟨⟨s0, s1, s2, s3⟩, hK, hN, hT⟩ := h
  have s2' := s2
  obtain ⟨m, hm, e, hh⟩ := s2
  have h1 := LN_cell_s2_s (x2 := x2) (x3 := x3) (k := σ.1 386) (t := σ.1 385) hm (σ.2.2.1 7)
  rw [← e] at h1
  rcases hh with ⟨a, b⟩ | ⟨a, b, c', f⟩
  · rw [if_pos a] at h1
    have h2 := M_cell_m (r := 2) (by decide) x2 x3 (ce := σ.2.2.1 53) (ki := σ.2.2.1 51) b
    exact ⟨_, _, _, Or.inr (Or.inr (Or.inl ⟨rfl, _, h1, rfl⟩)), ⟨_, h2, rfl⟩, ⟨s0, s1, s2', s3⟩, hK, hN, hT⟩
  · rw [if_neg (by rw [a]; decide)] at h1
    have h2 := M_cell_r (r := 2) (by decide) hm x2 x3 (ce := σ.2.2.1 53) (ki := σ.2.2.1 51) b
    by_cases g : inb x2 m = true
    · rw [if_pos g] at h1 h2
      obtain ⟨j, hj, rfl⟩ := inb_of g (by omega)
      rw [cl_nI (by omega)] at h1 h2
      refine ⟨_, _, _, Or.inr (Or.inr (Or.inl ⟨rfl, _, h1, rfl⟩)), ⟨_, h2, rfl⟩, ⟨ISh_fr s0 rfl rfl (fun i hi => (show upd (σ.2.2.1 53) (60 * 2 + j) (spCast (σ.2.2.1 51 2) x3) (60 * 0 + i) = (σ.2.2.1 53) (60 * 0 + i) from updN (by omega))), ISh_fr s1 rfl rfl (fun i hi => (show upd (σ.2.2.1 53) (60 * 2 + j) (spCast (σ.2.2.1 51 2) x3) (60 * 1 + i) = (σ.2.2.1 53) (60 * 1 + i) from updN (by omega))), ⟨m, hm, e, Or.inr ⟨a, b, c', fun i hi => ?_⟩⟩, ISh_fr s3 rfl rfl (fun i hi => (show upd (σ.2.2.1 53) (60 * 2 + j) (spCast (σ.2.2.1 51 2) x3) (60 * 3 + i) = (σ.2.2.1 53) (60 * 3 + i) from updN (by omega)))⟩, hK, hN, hT⟩
      show upd (σ.2.2.1 53) (60 * 2 + j) (spCast (σ.2.2.1 51 2) x3) (60 * 2 + i) = upd (σ.2.2.1 7) j (spCast (σ.1 386) x3) i
      by_cases ij : i = j
      · rw [ij, updS, updS, c']
      · rw [updN ij, updN (by omega)]
        exact f i hi
    · rw [if_neg g] at h1 h2
      exact ⟨_, _, _, Or.inr (Or.inr (Or.inl ⟨rfl, _, h1, rfl⟩)), ⟨_, h2, rfl⟩, ⟨s0, s1, s2', s3⟩, hK, hN, hT⟩
theorem op_lose2 (σ : St) (h : Inv σ) : ∃ (q : Int32) (σ1 σ2 : St), eL_lose 2 σ q σ1 ∧ eM_lose 2 σ1 q σ2 ∧ Inv σ2 := by
  obtain ⟨⟨s0, s1, s2, s3⟩, hK, hN, hT⟩ := h
  have s2' := s2
  obtain ⟨m, hm, e, hh⟩ := s2
  have h1 := LN_lose_s2_s (σ.1 385)
  have h2 := M_lose_r (r := 2) (by decide) (σ.2.2.1 52)
  rcases hh with ⟨a, b⟩ | ⟨a, b, c', f⟩
  · rw [if_pos a] at h1
    rw [if_neg (by rw [b]; decide)] at h2
    exact ⟨_, _, _, Or.inr (Or.inr (Or.inl ⟨rfl, _, h1, rfl⟩)), ⟨_, h2, rfl⟩, ⟨s0, s1, s2', s3⟩, hK, hN, hT⟩
  · rw [if_neg (by rw [a]; decide)] at h1
    rw [if_pos (by rw [b]; exact nI_le (Nat.zero_le _) (by omega))] at h2
    exact ⟨_, _, _, Or.inr (Or.inr (Or.inl ⟨rfl, _, h1, rfl⟩)), ⟨_, h2, rfl⟩, ⟨ISh_fr s0 (show upd (σ.2.2.1 52) 2 (-1) 0 = (σ.2.2.1 52) 0 from updN (by decide)) rfl (fun i hi => rfl), ISh_fr s1 (show upd (σ.2.2.1 52) 2 (-1) 1 = (σ.2.2.1 52) 1 from updN (by decide)) rfl (fun i hi => rfl), ⟨m, hm, e, Or.inl ⟨rfl, (show upd (σ.2.2.1 52) 2 (-1) 2 = -1 from updS)⟩⟩, ISh_fr s3 (show upd (σ.2.2.1 52) 2 (-1) 3 = (σ.2.2.1 52) 3 from updN (by decide)) rfl (fun i hi => rfl)⟩, hK, hN, hT⟩
theorem op_load2 (σ : St) (x2 x3 : Int32) (h : Inv σ) : ∃ (q : Int32) (σ1 σ2 : St), eL_load 2 x2 x3 σ q σ1 ∧ eM_load 2 x2 x3 σ1 q σ2 ∧ Inv σ2 := by
  obtain ⟨⟨s0, s1, s2, s3⟩, hK, ⟨n, adj, hw, ⟨e1, hb, hc, hs, hp⟩, e2, hb2, hc2, hp2⟩, hT⟩ := h
  have s2' := s2
  obtain ⟨m, hm, e, hh⟩ := s2
  rcases hh with ⟨a, b⟩ | ⟨a, b, c', f⟩
  · have h1 := LN_load_s2_m (x2 := x2) (x3 := x3) (lr := σ.1 1539) (ns := σ.1 641) (pr := σ.1 2632) (sr := σ.1 2372) (sz := σ.1 387) (wr := σ.1 1283) (nn := σ.2.2.1 11) (cells := σ.2.2.1 7) a
    have h2 := M_load_m (r := 2) (x2 := x2) (x3 := x3) (ak := σ.1 3238) (im := σ.1 3212) (ps := σ.1 3203) (ce := σ.2.2.1 53) (road := σ.2.2.1 54) (by decide) b
    exact ⟨_, _, _, Or.inr (Or.inr (Or.inl ⟨rfl, _, _, _, _, _, h1, rfl⟩)), ⟨_, _, _, h2, rfl⟩, ⟨s0, s1, s2', s3⟩, hK, ⟨n, adj, hw, ⟨e1, hb, hc, hs, hp⟩, e2, hb2, hc2, hp2⟩, hT⟩
  · have ht : ¬ σ.1 385 = 0 := by rw [a]; decide
    by_cases g : ldOk x2 x3 n m (σ.2.2.1 7)
    · obtain ⟨p, q, rfl, rfl, hpq, hok⟩ := g
      have same : ∀ k, k < q → (σ.2.2.1 53) (60 * 2 + (p + 2 * k)) = (σ.2.2.1 7) (p + 2 * k) ∧ (σ.2.2.1 53) (60 * 2 + (p + 2 * k + 1)) = (σ.2.2.1 7) (p + 2 * k + 1) := fun k hk => ⟨f _ (by omega), f _ (by omega)⟩
      have hA : ldA adj (fun j => (σ.2.2.1 53) (60 * 2 + j)) p q = ldA adj (σ.2.2.1 7) p q := ldA_cong same
      have hl : Ok (LN_load_s2 (nI p) (nI q) (σ.1 1539) (σ.1 641) (σ.1 2632) (σ.1 2372) (σ.1 387) (σ.1 385) (σ.1 1283) (σ.2.2.1 11) (σ.2.2.1 7)) (fun z => z.1 = nI (roadsN (ldA adj (σ.2.2.1 7) p q) n) - nI (roadsN adj n) ∧ z.2.1 = 0 ∧ z.2.2.1 = 0 ∧ z.2.2.2.1 = -1 ∧ z.2.2.2.2.1 = 0 ∧ Lb z.2.2.2.2.2 (ldA adj (σ.2.2.1 7) p q)) := by rw [e1, e]; exact LN_load_s2_s hw hb hm ht hpq hok
      have hml : Ok (M_load (nI 2) (nI p) (nI q) (σ.1 3238) (σ.1 3212) (σ.1 3203) (σ.2.2.1 53) (σ.2.2.1 54) (σ.2.2.1 52)) (fun z => z.1 = nI (roadsN (ldA adj (fun j => (σ.2.2.1 53) (60 * 2 + j)) p q) n) - nI (roadsN adj n) ∧ ((q = 0 ∧ z.2.1 = (σ.1 3238) ∧ z.2.2.1 = (σ.1 3212)) ∨ (z.2.1 = 0 ∧ z.2.2.1 = 0)) ∧ Mb z.2.2.2 (ldA adj (fun j => (σ.2.2.1 53) (60 * 2 + j)) p q)) := by
        rw [e2]
        exact M_load_s (r := 2) (by decide) hw hb2 hm b hpq (fun k hk => by rw [(same k hk).1, (same k hk).2]; exact hok k hk)
      obtain ⟨⟨z0, z1, z2, z3, z4, z5⟩, ez, q0, q1, q2, q3, q4, q5⟩ := hl
      obtain ⟨⟨v0, v1, v2, v3⟩, ev, p0, p1, p2⟩ := hml
      rw [hA] at p0 p2
      have er : v0 = z0 := p0.trans q0.symm
      subst er
      have hWF : WF n (ldA adj (σ.2.2.1 7) p q) := ld_wf hw hok q (Nat.le_refl q)
      refine ⟨v0, _, _, Or.inr (Or.inr (Or.inl ⟨rfl, z1, z2, z3, z4, z5, ez, rfl⟩)), ⟨v1, v2, v3, ev, rfl⟩, ⟨s0, s1, s2', s3⟩, hK, ⟨n, _, hWF, ⟨e1, q5, ⟨Or.inl q4, Or.inl q1⟩, Or.inl q3, Or.inl q2⟩, e2, p2, ?_, ?_⟩, hT⟩
      · rcases p1 with ⟨k0, _, k2⟩ | ⟨_, k2⟩
        · subst k0
          show MC (ldA adj (σ.2.2.1 7) p 0) n (σ.1 3214) (σ.1 3215) v2 (σ.2.2.1 59)
          rw [show v2 = σ.1 3212 from k2]
          exact hc2
        · exact Or.inl k2
      · rcases p1 with ⟨k0, k1, _⟩ | ⟨k1, _⟩
        · subst k0
          show PC (ldA adj (σ.2.2.1 7) p 0) n (σ.1 3242) v1 (σ.2.2.1 78)
          rw [show v1 = σ.1 3238 from k1]
          exact hp2
        · exact Or.inl k1
    · have h1 := LN_load_s2_b (lr := σ.1 1539) (pr := σ.1 2632) (sr := σ.1 2372) (wr := σ.1 1283) (nn := σ.2.2.1 11) hw.1 hm ht g
      have h2 := M_load_b (r := 2) (x2 := x2) (x3 := x3) (ak := σ.1 3238) (im := σ.1 3212) (ce := σ.2.2.1 53) (road := σ.2.2.1 54) (by decide) hw.1 hm b (fun h => g (ldOk_cong (fun i hi => f i hi) h))
      rw [← e1, ← e] at h1
      rw [← e2] at h2
      exact ⟨_, _, _, Or.inr (Or.inr (Or.inl ⟨rfl, _, _, _, _, _, h1, rfl⟩)), ⟨_, _, _, h2, rfl⟩, ⟨s0, s1, s2', s3⟩, hK, ⟨n, adj, hw, ⟨e1, hb, hc, hs, hp⟩, e2, hb2, hc2, hp2⟩, hT⟩
theorem op_sheet3 (σ : St) (x2 x3 : Int32) (h : Inv σ) : ∃ (q : Int32) (σ1 σ2 : St), eL_sheet 3 x2 x3 σ q σ1 ∧ eM_sheet 3 x2 x3 σ1 q σ2 ∧ Inv σ2 := by
  obtain ⟨⟨s0, s1, s2, s3⟩, hK, hN, hT⟩ := h
  have h1 := LN_sheet_s3_s x2 x3 (σ.1 515) (σ.1 514) (σ.1 513) (σ.2.2.1 9)
  obtain ⟨⟨v0, v1, v2, v3⟩, ev, hv⟩ := M_sheet_r (r := 3) (by decide) x2 x3 (σ.2.2.1 53) (σ.2.2.1 51) (σ.2.2.1 52)
  have hv2 : if spSheet x2 x3 = 1 then v0 = 1 ∧ v2 = upd (σ.2.2.1 51) 3 x2 ∧ v3 = upd (σ.2.2.1 52) 3 x3 ∧ (∀ i, i < x3.toNatClampNeg → v1 (60 * 3 + i) = 0) ∧ (∀ j, (j < 60 * 3 ∨ 60 * 3 + 60 ≤ j) → v1 j = σ.2.2.1 53 j) else (v0, v1, v2, v3) = (spSheet x2 x3, σ.2.2.1 53, σ.2.2.1 51, σ.2.2.1 52) := hv
  by_cases g : spSheet x2 x3 = 1
  · rw [if_pos g] at h1 hv2
    obtain ⟨k, m, hk, hm, ek, em⟩ := spSheet_1 g
    obtain ⟨p0, p1, p2, p3, p4⟩ := hv2
    rw [p0] at ev
    exact ⟨1, _, _, Or.inr (Or.inr (Or.inr (Or.inl ⟨rfl, _, _, _, _, h1, rfl⟩))), ⟨v1, v2, v3, ev, rfl⟩, ⟨ISh_fr s0 ((congrFun p2 0).trans (updN (by decide))) ((congrFun p1 0).trans (updN (by decide))) (fun i hi => p4 _ (by omega)), ISh_fr s1 ((congrFun p2 1).trans (updN (by decide))) ((congrFun p1 1).trans (updN (by decide))) (fun i hi => p4 _ (by omega)), ISh_fr s2 ((congrFun p2 2).trans (updN (by decide))) ((congrFun p1 2).trans (updN (by decide))) (fun i hi => p4 _ (by omega)), ⟨m, hm, em, Or.inr ⟨rfl, (congrFun p2 3).trans (updS.trans em), (congrFun p1 3).trans updS, fun i hi => (p3 i (by rw [em, cl_nI (by omega)]; exact hi)).trans (show (0 : Int32) = fa_fill (fun _ => 0) (σ.2.2.1 9) 60 i from (fa_fill_in (f := fun _ => (0 : Int32)) (show i < 60 by omega)).symm)⟩⟩⟩, hK, hN, hT⟩
  · rw [if_neg g] at h1 hv2
    cases hv2
    exact ⟨_, _, _, Or.inr (Or.inr (Or.inr (Or.inl ⟨rfl, _, _, _, _, h1, rfl⟩))), ⟨_, _, _, ev, rfl⟩, ⟨s0, s1, s2, s3⟩, hK, hN, hT⟩
theorem op_cell3 (σ : St) (x2 x3 : Int32) (h : Inv σ) : ∃ (q : Int32) (σ1 σ2 : St), eL_cell 3 x2 x3 σ q σ1 ∧ eM_cell 3 x2 x3 σ1 q σ2 ∧ Inv σ2 := by
  obtain ⟨⟨s0, s1, s2, s3⟩, hK, hN, hT⟩ := h
  have s3' := s3
  obtain ⟨m, hm, e, hh⟩ := s3
  have h1 := LN_cell_s3_s (x2 := x2) (x3 := x3) (k := σ.1 514) (t := σ.1 513) hm (σ.2.2.1 9)
  rw [← e] at h1
  rcases hh with ⟨a, b⟩ | ⟨a, b, c', f⟩
  · rw [if_pos a] at h1
    have h2 := M_cell_m (r := 3) (by decide) x2 x3 (ce := σ.2.2.1 53) (ki := σ.2.2.1 51) b
    exact ⟨_, _, _, Or.inr (Or.inr (Or.inr (Or.inl ⟨rfl, _, h1, rfl⟩))), ⟨_, h2, rfl⟩, ⟨s0, s1, s2, s3'⟩, hK, hN, hT⟩
  · rw [if_neg (by rw [a]; decide)] at h1
    have h2 := M_cell_r (r := 3) (by decide) hm x2 x3 (ce := σ.2.2.1 53) (ki := σ.2.2.1 51) b
    by_cases g : inb x2 m = true
    · rw [if_pos g] at h1 h2
      obtain ⟨j, hj, rfl⟩ := inb_of g (by omega)
      rw [cl_nI (by omega)] at h1 h2
      refine ⟨_, _, _, Or.inr (Or.inr (Or.inr (Or.inl ⟨rfl, _, h1, rfl⟩))), ⟨_, h2, rfl⟩, ⟨ISh_fr s0 rfl rfl (fun i hi => (show upd (σ.2.2.1 53) (60 * 3 + j) (spCast (σ.2.2.1 51 3) x3) (60 * 0 + i) = (σ.2.2.1 53) (60 * 0 + i) from updN (by omega))), ISh_fr s1 rfl rfl (fun i hi => (show upd (σ.2.2.1 53) (60 * 3 + j) (spCast (σ.2.2.1 51 3) x3) (60 * 1 + i) = (σ.2.2.1 53) (60 * 1 + i) from updN (by omega))), ISh_fr s2 rfl rfl (fun i hi => (show upd (σ.2.2.1 53) (60 * 3 + j) (spCast (σ.2.2.1 51 3) x3) (60 * 2 + i) = (σ.2.2.1 53) (60 * 2 + i) from updN (by omega))), ⟨m, hm, e, Or.inr ⟨a, b, c', fun i hi => ?_⟩⟩⟩, hK, hN, hT⟩
      show upd (σ.2.2.1 53) (60 * 3 + j) (spCast (σ.2.2.1 51 3) x3) (60 * 3 + i) = upd (σ.2.2.1 9) j (spCast (σ.1 514) x3) i
      by_cases ij : i = j
      · rw [ij, updS, updS, c']
      · rw [updN ij, updN (by omega)]
        exact f i hi
    · rw [if_neg g] at h1 h2
      exact ⟨_, _, _, Or.inr (Or.inr (Or.inr (Or.inl ⟨rfl, _, h1, rfl⟩))), ⟨_, h2, rfl⟩, ⟨s0, s1, s2, s3'⟩, hK, hN, hT⟩
theorem op_lose3 (σ : St) (h : Inv σ) : ∃ (q : Int32) (σ1 σ2 : St), eL_lose 3 σ q σ1 ∧ eM_lose 3 σ1 q σ2 ∧ Inv σ2 := by
  obtain ⟨⟨s0, s1, s2, s3⟩, hK, hN, hT⟩ := h
  have s3' := s3
  obtain ⟨m, hm, e, hh⟩ := s3
  have h1 := LN_lose_s3_s (σ.1 513)
  have h2 := M_lose_r (r := 3) (by decide) (σ.2.2.1 52)
  rcases hh with ⟨a, b⟩ | ⟨a, b, c', f⟩
  · rw [if_pos a] at h1
    rw [if_neg (by rw [b]; decide)] at h2
    exact ⟨_, _, _, Or.inr (Or.inr (Or.inr (Or.inl ⟨rfl, _, h1, rfl⟩))), ⟨_, h2, rfl⟩, ⟨s0, s1, s2, s3'⟩, hK, hN, hT⟩
  · rw [if_neg (by rw [a]; decide)] at h1
    rw [if_pos (by rw [b]; exact nI_le (Nat.zero_le _) (by omega))] at h2
    exact ⟨_, _, _, Or.inr (Or.inr (Or.inr (Or.inl ⟨rfl, _, h1, rfl⟩))), ⟨_, h2, rfl⟩, ⟨ISh_fr s0 (show upd (σ.2.2.1 52) 3 (-1) 0 = (σ.2.2.1 52) 0 from updN (by decide)) rfl (fun i hi => rfl), ISh_fr s1 (show upd (σ.2.2.1 52) 3 (-1) 1 = (σ.2.2.1 52) 1 from updN (by decide)) rfl (fun i hi => rfl), ISh_fr s2 (show upd (σ.2.2.1 52) 3 (-1) 2 = (σ.2.2.1 52) 2 from updN (by decide)) rfl (fun i hi => rfl), ⟨m, hm, e, Or.inl ⟨rfl, (show upd (σ.2.2.1 52) 3 (-1) 3 = -1 from updS)⟩⟩⟩, hK, hN, hT⟩
theorem op_load3 (σ : St) (x2 x3 : Int32) (h : Inv σ) : ∃ (q : Int32) (σ1 σ2 : St), eL_load 3 x2 x3 σ q σ1 ∧ eM_load 3 x2 x3 σ1 q σ2 ∧ Inv σ2 := by
  obtain ⟨⟨s0, s1, s2, s3⟩, hK, ⟨n, adj, hw, ⟨e1, hb, hc, hs, hp⟩, e2, hb2, hc2, hp2⟩, hT⟩ := h
  have s3' := s3
  obtain ⟨m, hm, e, hh⟩ := s3
  rcases hh with ⟨a, b⟩ | ⟨a, b, c', f⟩
  · have h1 := LN_load_s3_m (x2 := x2) (x3 := x3) (lr := σ.1 1539) (ns := σ.1 641) (pr := σ.1 2632) (sr := σ.1 2372) (sz := σ.1 515) (wr := σ.1 1283) (nn := σ.2.2.1 11) (cells := σ.2.2.1 9) a
    have h2 := M_load_m (r := 3) (x2 := x2) (x3 := x3) (ak := σ.1 3238) (im := σ.1 3212) (ps := σ.1 3203) (ce := σ.2.2.1 53) (road := σ.2.2.1 54) (by decide) b
    exact ⟨_, _, _, Or.inr (Or.inr (Or.inr (Or.inl ⟨rfl, _, _, _, _, _, h1, rfl⟩))), ⟨_, _, _, h2, rfl⟩, ⟨s0, s1, s2, s3'⟩, hK, ⟨n, adj, hw, ⟨e1, hb, hc, hs, hp⟩, e2, hb2, hc2, hp2⟩, hT⟩
  · have ht : ¬ σ.1 513 = 0 := by rw [a]; decide
    by_cases g : ldOk x2 x3 n m (σ.2.2.1 9)
    · obtain ⟨p, q, rfl, rfl, hpq, hok⟩ := g
      have same : ∀ k, k < q → (σ.2.2.1 53) (60 * 3 + (p + 2 * k)) = (σ.2.2.1 9) (p + 2 * k) ∧ (σ.2.2.1 53) (60 * 3 + (p + 2 * k + 1)) = (σ.2.2.1 9) (p + 2 * k + 1) := fun k hk => ⟨f _ (by omega), f _ (by omega)⟩
      have hA : ldA adj (fun j => (σ.2.2.1 53) (60 * 3 + j)) p q = ldA adj (σ.2.2.1 9) p q := ldA_cong same
      have hl : Ok (LN_load_s3 (nI p) (nI q) (σ.1 1539) (σ.1 641) (σ.1 2632) (σ.1 2372) (σ.1 515) (σ.1 513) (σ.1 1283) (σ.2.2.1 11) (σ.2.2.1 9)) (fun z => z.1 = nI (roadsN (ldA adj (σ.2.2.1 9) p q) n) - nI (roadsN adj n) ∧ z.2.1 = 0 ∧ z.2.2.1 = 0 ∧ z.2.2.2.1 = -1 ∧ z.2.2.2.2.1 = 0 ∧ Lb z.2.2.2.2.2 (ldA adj (σ.2.2.1 9) p q)) := by rw [e1, e]; exact LN_load_s3_s hw hb hm ht hpq hok
      have hml : Ok (M_load (nI 3) (nI p) (nI q) (σ.1 3238) (σ.1 3212) (σ.1 3203) (σ.2.2.1 53) (σ.2.2.1 54) (σ.2.2.1 52)) (fun z => z.1 = nI (roadsN (ldA adj (fun j => (σ.2.2.1 53) (60 * 3 + j)) p q) n) - nI (roadsN adj n) ∧ ((q = 0 ∧ z.2.1 = (σ.1 3238) ∧ z.2.2.1 = (σ.1 3212)) ∨ (z.2.1 = 0 ∧ z.2.2.1 = 0)) ∧ Mb z.2.2.2 (ldA adj (fun j => (σ.2.2.1 53) (60 * 3 + j)) p q)) := by
        rw [e2]
        exact M_load_s (r := 3) (by decide) hw hb2 hm b hpq (fun k hk => by rw [(same k hk).1, (same k hk).2]; exact hok k hk)
      obtain ⟨⟨z0, z1, z2, z3, z4, z5⟩, ez, q0, q1, q2, q3, q4, q5⟩ := hl
      obtain ⟨⟨v0, v1, v2, v3⟩, ev, p0, p1, p2⟩ := hml
      rw [hA] at p0 p2
      have er : v0 = z0 := p0.trans q0.symm
      subst er
      have hWF : WF n (ldA adj (σ.2.2.1 9) p q) := ld_wf hw hok q (Nat.le_refl q)
      refine ⟨v0, _, _, Or.inr (Or.inr (Or.inr (Or.inl ⟨rfl, z1, z2, z3, z4, z5, ez, rfl⟩))), ⟨v1, v2, v3, ev, rfl⟩, ⟨s0, s1, s2, s3'⟩, hK, ⟨n, _, hWF, ⟨e1, q5, ⟨Or.inl q4, Or.inl q1⟩, Or.inl q3, Or.inl q2⟩, e2, p2, ?_, ?_⟩, hT⟩
      · rcases p1 with ⟨k0, _, k2⟩ | ⟨_, k2⟩
        · subst k0
          show MC (ldA adj (σ.2.2.1 9) p 0) n (σ.1 3214) (σ.1 3215) v2 (σ.2.2.1 59)
          rw [show v2 = σ.1 3212 from k2]
          exact hc2
        · exact Or.inl k2
      · rcases p1 with ⟨k0, k1, _⟩ | ⟨k1, _⟩
        · subst k0
          show PC (ldA adj (σ.2.2.1 9) p 0) n (σ.1 3242) v1 (σ.2.2.1 78)
          rw [show v1 = σ.1 3238 from k1]
          exact hp2
        · exact Or.inl k1
    · have h1 := LN_load_s3_b (lr := σ.1 1539) (pr := σ.1 2632) (sr := σ.1 2372) (wr := σ.1 1283) (nn := σ.2.2.1 11) hw.1 hm ht g
      have h2 := M_load_b (r := 3) (x2 := x2) (x3 := x3) (ak := σ.1 3238) (im := σ.1 3212) (ce := σ.2.2.1 53) (road := σ.2.2.1 54) (by decide) hw.1 hm b (fun h => g (ldOk_cong (fun i hi => f i hi) h))
      rw [← e1, ← e] at h1
      rw [← e2] at h2
      exact ⟨_, _, _, Or.inr (Or.inr (Or.inr (Or.inl ⟨rfl, _, _, _, _, _, h1, rfl⟩))), ⟨_, _, _, h2, rfl⟩, ⟨s0, s1, s2, s3'⟩, hK, ⟨n, adj, hw, ⟨e1, hb, hc, hs, hp⟩, e2, hb2, hc2, hp2⟩, hT⟩
theorem op_sheet (σ : St) (x1 : Int32) (x2 x3 : Int32) (h : Inv σ) : ∃ (q : Int32) (σ1 σ2 : St), eL_sheet x1 x2 x3 σ q σ1 ∧ eM_sheet x1 x2 x3 σ1 q σ2 ∧ Inv σ2 := by
  by_cases c0 : x1 = 0
  · rw [c0]; exact op_sheet0 σ x2 x3 h
  by_cases c1 : x1 = 1
  · rw [c1]; exact op_sheet1 σ x2 x3 h
  by_cases c2 : x1 = 2
  · rw [c2]; exact op_sheet2 σ x2 x3 h
  by_cases c3 : x1 = 3
  · rw [c3]; exact op_sheet3 σ x2 x3 h
  exact ⟨-1, σ, _, Or.inr (Or.inr (Or.inr (Or.inr ⟨⟨c0, c1, c2, c3⟩, LN_sheet_so_s (inb4 c0 c1 c2 c3), rfl⟩))), ⟨_, _, _, M_sheet_o (inb4 c0 c1 c2 c3) x2 x3 (σ.2.2.1 53) (σ.2.2.1 51) (σ.2.2.1 52), rfl⟩, h.1, h.2.1, h.2.2.1, h.2.2.2⟩
theorem op_cell (σ : St) (x1 : Int32) (x2 x3 : Int32) (h : Inv σ) : ∃ (q : Int32) (σ1 σ2 : St), eL_cell x1 x2 x3 σ q σ1 ∧ eM_cell x1 x2 x3 σ1 q σ2 ∧ Inv σ2 := by
  by_cases c0 : x1 = 0
  · rw [c0]; exact op_cell0 σ x2 x3 h
  by_cases c1 : x1 = 1
  · rw [c1]; exact op_cell1 σ x2 x3 h
  by_cases c2 : x1 = 2
  · rw [c2]; exact op_cell2 σ x2 x3 h
  by_cases c3 : x1 = 3
  · rw [c3]; exact op_cell3 σ x2 x3 h
  exact ⟨-1, σ, _, Or.inr (Or.inr (Or.inr (Or.inr ⟨⟨c0, c1, c2, c3⟩, LN_cell_so_s (inb4 c0 c1 c2 c3), rfl⟩))), ⟨_, M_cell_o (inb4 c0 c1 c2 c3) x2 x3 (σ.2.2.1 53) (σ.2.2.1 51) (σ.2.2.1 52), rfl⟩, h.1, h.2.1, h.2.2.1, h.2.2.2⟩
theorem op_lose (σ : St) (x1 : Int32) (h : Inv σ) : ∃ (q : Int32) (σ1 σ2 : St), eL_lose x1  σ q σ1 ∧ eM_lose x1  σ1 q σ2 ∧ Inv σ2 := by
  by_cases c0 : x1 = 0
  · rw [c0]; exact op_lose0 σ  h
  by_cases c1 : x1 = 1
  · rw [c1]; exact op_lose1 σ  h
  by_cases c2 : x1 = 2
  · rw [c2]; exact op_lose2 σ  h
  by_cases c3 : x1 = 3
  · rw [c3]; exact op_lose3 σ  h
  exact ⟨-1, σ, _, Or.inr (Or.inr (Or.inr (Or.inr ⟨⟨c0, c1, c2, c3⟩, LN_lose_so_s (inb4 c0 c1 c2 c3), rfl⟩))), ⟨_, M_lose_o (inb4 c0 c1 c2 c3) (σ.2.2.1 52), rfl⟩, h.1, h.2.1, h.2.2.1, h.2.2.2⟩
theorem op_load (σ : St) (x1 : Int32) (x2 x3 : Int32) (h : Inv σ) : ∃ (q : Int32) (σ1 σ2 : St), eL_load x1 x2 x3 σ q σ1 ∧ eM_load x1 x2 x3 σ1 q σ2 ∧ Inv σ2 := by
  by_cases c0 : x1 = 0
  · rw [c0]; exact op_load0 σ x2 x3 h
  by_cases c1 : x1 = 1
  · rw [c1]; exact op_load1 σ x2 x3 h
  by_cases c2 : x1 = 2
  · rw [c2]; exact op_load2 σ x2 x3 h
  by_cases c3 : x1 = 3
  · rw [c3]; exact op_load3 σ x2 x3 h
  exact ⟨-1, σ, _, Or.inr (Or.inr (Or.inr (Or.inr ⟨⟨c0, c1, c2, c3⟩, LN_load_so_s (inb4 c0 c1 c2 c3), rfl⟩))), ⟨_, _, _, M_load_o (inb4 c0 c1 c2 c3), rfl⟩, h.1, h.2.1, h.2.2.1, h.2.2.2⟩
