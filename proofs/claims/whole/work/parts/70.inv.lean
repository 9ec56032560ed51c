
/-! the invariant -/
def IK (σ : St) : Prop := (σ.1 12 = 0 ∧ σ.1 3205 = 0) ∨ (σ.1 12 = 1 ∧ σ.1 3205 = 1 ∧ ∃ m A, WF m A ∧ σ.1 897 = nI m ∧ Lb (σ.2.2.1 15) A ∧ σ.1 3206 = nI m ∧ Mb (σ.2.2.1 55) A)
def INL (adj : Nat → Nat → Bool) (n : Nat) (σ : St) : Prop := σ.1 641 = nI n ∧ Lb (σ.2.2.1 11) adj ∧ LNC adj n (σ.1 1541) (σ.1 1542) (σ.1 1540) (σ.1 1539) (σ.1 1286) (σ.1 1283) (σ.1 1285) (σ.1 1284) (σ.2.2.1 26) (σ.2.2.1 27) (σ.2.2.1 25) (σ.2.2.1 22) (σ.2.2.1 23) (σ.2.2.1 21) ∧ SK adj n (σ.1 2373) (σ.1 2372) (σ.2.2.1 39) ∧ PC adj n (σ.1 2634) (σ.1 2632) (σ.2.2.1 42)
def INM (adj : Nat → Nat → Bool) (n : Nat) (σ : St) : Prop := σ.1 3203 = nI n ∧ Mb (σ.2.2.1 54) adj ∧ MC adj n (σ.1 3214) (σ.1 3215) (σ.1 3212) (σ.2.2.1 59) ∧ PC adj n (σ.1 3242) (σ.1 3238) (σ.2.2.1 78)
def IN (σ : St) : Prop := ∃ n adj, WF n adj ∧ INL adj n σ ∧ INM adj n σ
def ITL (d : Nat) (be ga : Nat → Nat) (σ : St) : Prop := σ.1 1800 = nI d ∧ TB (σ.2.2.1 29) be ∧ TB (σ.2.2.1 30) ga ∧ JK d be ga (σ.1 1802) (σ.1 1804) (σ.1 1801) (σ.2.1 1803) (σ.2.2.1 35) (σ.2.2.1 36) (σ.2.2.2 31) (σ.2.2.2 32)
def ITM (d : Nat) (be ga : Nat → Nat) (σ : St) : Prop := σ.1 3208 = nI d ∧ TB (σ.2.2.1 56) be ∧ TB (σ.2.2.1 57) ga
def IT (σ : St) : Prop := ∃ d be ga, TT d be ga ∧ ITL d be ga σ ∧ ITM d be ga σ
/-- one sheet: there, kind, size, cells of the class; kind, size, cells of the model at r -/
def ISh (r : Nat) (t k s : Int32) (cl : Nat → Int32) (ce ki si : Nat → Int32) : Prop := ∃ m, m ≤ 60 ∧ s = nI m ∧ ((t = 0 ∧ si r = -1) ∨ (t = 1 ∧ si r = nI m ∧ ki r = k ∧ ∀ i, i < m → ce (60 * r + i) = cl i))
def IS (σ : St) : Prop := ISh 0 (σ.1 129) (σ.1 130) (σ.1 131) (σ.2.2.1 3) (σ.2.2.1 53) (σ.2.2.1 51) (σ.2.2.1 52) ∧ ISh 1 (σ.1 257) (σ.1 258) (σ.1 259) (σ.2.2.1 5) (σ.2.2.1 53) (σ.2.2.1 51) (σ.2.2.1 52) ∧ ISh 2 (σ.1 385) (σ.1 386) (σ.1 387) (σ.2.2.1 7) (σ.2.2.1 53) (σ.2.2.1 51) (σ.2.2.1 52) ∧ ISh 3 (σ.1 513) (σ.1 514) (σ.1 515) (σ.2.2.1 9) (σ.2.2.1 53) (σ.2.2.1 51) (σ.2.2.1 52)
def Inv (σ : St) : Prop := IS σ ∧ IK σ ∧ IN σ ∧ IT σ
theorem op_entry (σ : St) (x1 : Int32) (x2 : Int32) (h : Inv σ) : ∃ (r : Int32) (σ1 σ2 : St), eL_entry x1 x2 σ r σ1 ∧ eM_entry x1 x2 σ1 r σ2 ∧ Inv σ2 := by
  obtain ⟨hS, hK, hN, d, be, ga, hT, ⟨e1, b1, c1, hj⟩, e2, b2, c2⟩ := h
  have hl : Ok (LN_entry x1 x2 (σ.1 1802) (σ.1 1804) (σ.1 1800) (σ.1 1801) (σ.2.1 1803) (σ.2.2.1 29) (σ.2.2.1 30) (σ.2.2.1 35) (σ.2.2.1 36) (σ.2.2.2 31) (σ.2.2.2 33) (σ.2.2.2 32)) (fun z => z.1 = spEntry d be ga x1 x2 ∧ (z.2 = ((σ.1 1802), (σ.1 1804), (σ.1 1801), (σ.2.1 1803), (σ.2.2.1 35), (σ.2.2.1 36), (σ.2.2.2 31), (σ.2.2.2 33), (σ.2.2.2 32)) ∨ JY d be ga z.2)) := by rw [e1]; exact LN_entry_s hT b1 c1 hj
  have hm : Ok (M_entry x1 x2 (σ.1 3208) (σ.2.1 3224) (σ.2.2.1 56) (σ.2.2.1 57) (σ.2.2.2 65)) (fun z => z.1 = spEntry d be ga x1 x2) := by rw [e2]; exact M_entry_s hT b2 c2
  obtain ⟨⟨z0, z1, z2, z3, z4, z5, z6, z7, z8, z9⟩, ez, hz⟩ := hl
  obtain ⟨⟨v0, v1, v2⟩, ev, hv⟩ := hm
  have er : v0 = z0 := hv.trans hz.1.symm
  subst er
  refine ⟨v0, _, _, ⟨z1, z2, z3, z4, z5, z6, z7, z8, z9, ez, rfl⟩, ⟨v1, v2, ev, rfl⟩, ?_⟩
  refine ⟨hS, hK, hN, d, be, ga, hT, ⟨e1, b1, c1, ?_⟩, e2, b2, c2⟩
  rcases hz.2 with h | h
  · cases h; exact hj
  · exact Or.inr h
theorem op_third (σ : St) (x1 : Int32) (x2 : Int32) (x3 : Int32) (h : Inv σ) : ∃ (r : Int32) (σ1 σ2 : St), eL_third x1 x2 x3 σ r σ1 ∧ eM_third x1 x2 x3 σ1 r σ2 ∧ Inv σ2 := by
  obtain ⟨hS, hK, hN, d, be, ga, hT, ⟨e1, b1, c1, hj⟩, e2, b2, c2⟩ := h
  have hl : Ok (LN_third x1 x2 x3 (σ.1 1802) (σ.1 1804) (σ.1 1800) (σ.1 1801) (σ.2.1 1803) (σ.2.2.1 29) (σ.2.2.1 30) (σ.2.2.1 35) (σ.2.2.1 36) (σ.2.2.2 31) (σ.2.2.2 33) (σ.2.2.2 32)) (fun z => z.1 = spThird d be ga x1 x2 x3 ∧ (z.2 = ((σ.1 1802), (σ.1 1804), (σ.1 1801), (σ.2.1 1803), (σ.2.2.1 35), (σ.2.2.1 36), (σ.2.2.2 31), (σ.2.2.2 33), (σ.2.2.2 32)) ∨ JY d be ga z.2)) := by rw [e1]; exact LN_third_s hT b1 c1 hj
  have hm : Ok (M_third x1 x2 x3 (σ.1 3208) (σ.2.1 3224) (σ.2.2.1 56) (σ.2.2.1 57) (σ.2.2.2 65) (σ.2.2.2 66)) (fun z => z.1 = spThird d be ga x1 x2 x3) := by rw [e2]; exact M_third_s hT b2 c2
  obtain ⟨⟨z0, z1, z2, z3, z4, z5, z6, z7, z8, z9⟩, ez, hz⟩ := hl
  obtain ⟨⟨v0, v1, v2, v3⟩, ev, hv⟩ := hm
  have er : v0 = z0 := hv.trans hz.1.symm
  subst er
  refine ⟨v0, _, _, ⟨z1, z2, z3, z4, z5, z6, z7, z8, z9, ez, rfl⟩, ⟨v1, v2, v3, ev, rfl⟩, ?_⟩
  refine ⟨hS, hK, hN, d, be, ga, hT, ⟨e1, b1, c1, ?_⟩, e2, b2, c2⟩
  rcases hz.2 with h | h
  · cases h; exact hj
  · exact Or.inr h
theorem op_root (σ : St) (x1 : Int32) (x2 : Int32) (h : Inv σ) : ∃ (r : Int32) (σ1 σ2 : St), eL_root x1 x2 σ r σ1 ∧ eM_root x1 x2 σ1 r σ2 ∧ Inv σ2 := by
  obtain ⟨hS, hK, hN, d, be, ga, hT, ⟨e1, b1, c1, hj⟩, e2, b2, c2⟩ := h
  have hl : Ok (LN_root x1 x2 (σ.1 1802) (σ.1 1804) (σ.1 1800) (σ.1 1801) (σ.2.1 1803) (σ.2.2.1 29) (σ.2.2.1 30) (σ.2.2.1 35) (σ.2.2.1 36) (σ.2.2.2 31) (σ.2.2.2 33) (σ.2.2.2 32)) (fun z => z.1 = spRoot d be ga x1 x2 ∧ (z.2 = ((σ.1 1802), (σ.1 1804), (σ.1 1801), (σ.2.1 1803), (σ.2.2.1 35), (σ.2.2.1 36), (σ.2.2.2 31), (σ.2.2.2 33), (σ.2.2.2 32)) ∨ JY d be ga z.2)) := by rw [e1]; exact LN_root_s hT b1 c1 hj
  have hm : Ok (M_root x1 x2 (σ.1 3208) (σ.2.1 3224) (σ.2.2.1 56) (σ.2.2.1 57) (σ.2.2.2 65) (σ.2.2.2 66) (σ.2.2.2 67)) (fun z => z.1 = spRoot d be ga x1 x2) := by rw [e2]; exact M_root_s hT b2 c2
  obtain ⟨⟨z0, z1, z2, z3, z4, z5, z6, z7, z8, z9⟩, ez, hz⟩ := hl
  obtain ⟨⟨v0, v1, v2, v3, v4⟩, ev, hv⟩ := hm
  have er : v0 = z0 := hv.trans hz.1.symm
  subst er
  refine ⟨v0, _, _, ⟨z1, z2, z3, z4, z5, z6, z7, z8, z9, ez, rfl⟩, ⟨v1, v2, v3, v4, ev, rfl⟩, ?_⟩
  refine ⟨hS, hK, hN, d, be, ga, hT, ⟨e1, b1, c1, ?_⟩, e2, b2, c2⟩
  rcases hz.2 with h | h
  · cases h; exact hj
  · exact Or.inr h
theorem op_posts (σ : St)  (h : Inv σ) : ∃ (r : Int32) (σ1 σ2 : St), eL_posts  σ r σ1 ∧ eM_posts  σ1 r σ2 ∧ Inv σ2 := by
  obtain ⟨hS, hK, hN, d, be, ga, hT, ⟨e1, b1, c1, hj⟩, e2, b2, c2⟩ := h
  have hl : Ok (LN_posts (σ.1 1802) (σ.1 1804) (σ.1 1800) (σ.1 1801) (σ.2.1 1803) (σ.2.2.1 29) (σ.2.2.1 30) (σ.2.2.1 35) (σ.2.2.1 36) (σ.2.2.2 31) (σ.2.2.2 33) (σ.2.2.2 32)) (fun z => z.1 = spPosts d be ga ∧ JY d be ga z.2) := by rw [e1]; exact LN_posts_s hT b1 c1 hj
  have hm : Ok (M_posts (σ.1 3208) (σ.2.1 3224) (σ.2.2.1 56) (σ.2.2.1 57) (σ.2.2.2 65)) (fun z => z.1 = spPosts d be ga) := by rw [e2]; exact M_posts_s hT b2 c2
  obtain ⟨⟨z0, z1, z2, z3, z4, z5, z6, z7, z8, z9⟩, ez, hz⟩ := hl
  obtain ⟨⟨v0, v1, v2⟩, ev, hv⟩ := hm
  have er : v0 = z0 := hv.trans hz.1.symm
  subst er
  refine ⟨v0, _, _, ⟨z1, z2, z3, z4, z5, z6, z7, z8, z9, ez, rfl⟩, ⟨v1, v2, ev, rfl⟩, ?_⟩
  exact ⟨hS, hK, hN, d, be, ga, hT, ⟨e1, b1, c1, Or.inr hz.2⟩, e2, b2, c2⟩
theorem op_can (σ : St)  (h : Inv σ) : ∃ (r : Int32) (σ1 σ2 : St), eL_can  σ r σ1 ∧ eM_can  σ1 r σ2 ∧ Inv σ2 := by
  obtain ⟨hS, hK, hN, d, be, ga, hT, ⟨e1, b1, c1, hj⟩, e2, b2, c2⟩ := h
  have hl : Ok (LN_can (σ.1 1802) (σ.1 1804) (σ.1 1800) (σ.1 1801) (σ.2.1 1803) (σ.2.2.1 29) (σ.2.2.1 30) (σ.2.2.1 35) (σ.2.2.1 36) (σ.2.2.2 31) (σ.2.2.2 33) (σ.2.2.2 32)) (fun z => FB (Lw d be ga) 7 z.1 ∧ JY d be ga z.2) := by rw [e1]; exact LN_can_s hT b1 c1 hj
  have hm : Ok (M_can (σ.1 3208) (σ.2.1 3224) (σ.2.2.1 56) (σ.2.2.1 57) (σ.2.2.2 65) (σ.2.2.2 66) (σ.2.2.2 67)) (fun z => FB (Lw d be ga) 7 z.1) := by rw [e2]; exact M_can_s hT b2 c2
  obtain ⟨⟨z0, z1, z2, z3, z4, z5, z6, z7, z8, z9⟩, ez, hz⟩ := hl
  obtain ⟨⟨v0, v1, v2, v3, v4⟩, ev, hv⟩ := hm
  have er : v0 = z0 := FB_one hv hz.1
  subst er
  refine ⟨v0, _, _, ⟨z1, z2, z3, z4, z5, z6, z7, z8, z9, ez, rfl⟩, ⟨v1, v2, v3, v4, ev, rfl⟩, ?_⟩
  exact ⟨hS, hK, hN, d, be, ga, hT, ⟨e1, b1, c1, Or.inr hz.2⟩, e2, b2, c2⟩
theorem op_walks (σ : St) (x1 : Int32) (x2 : Int32) (h : Inv σ) : ∃ (r : Int64) (σ1 σ2 : St), eL_walks x1 x2 σ r σ1 ∧ eM_walks x1 x2 σ1 r σ2 ∧ Inv σ2 := by
  obtain ⟨hS, hK, hN, d, be, ga, hT, ⟨e1, b1, c1, hj⟩, e2, b2, c2⟩ := h
  have hl : Ok (LN_walks x1 x2 (σ.1 1802) (σ.1 1804) (σ.1 1800) (σ.1 1801) (σ.2.1 1803) (σ.2.2.1 29) (σ.2.2.1 30) (σ.2.2.1 35) (σ.2.2.1 36) (σ.2.2.2 31) (σ.2.2.2 33) (σ.2.2.2 32) (σ.2.2.2 34)) (fun z => z.1 = spWalks d be ga x1 x2 ∧ ((∃ w, z.2 = ((σ.1 1802), (σ.1 1804), (σ.1 1801), (σ.2.1 1803), (σ.2.2.1 35), (σ.2.2.1 36), (σ.2.2.2 31), (σ.2.2.2 33), (σ.2.2.2 32), w)) ∨ JC d be ga z.2.1 z.2.2.2.1 z.2.2.2.2.1 z.2.2.2.2.2.1 z.2.2.2.2.2.2.1 z.2.2.2.2.2.2.2.1 z.2.2.2.2.2.2.2.2.2.1)) := by rw [e1]; exact LN_walks_s hT b1 c1 hj
  have hm : Ok (M_walks x1 x2 (σ.1 3208) (σ.2.1 3224) (σ.2.2.1 56) (σ.2.2.1 57) (σ.2.2.2 69) (σ.2.2.2 65) (σ.2.2.2 68)) (fun z => z.1 = spWalks d be ga x1 x2) := by rw [e2]; exact M_walks_s hT b2 c2
  obtain ⟨⟨z0, z1, z2, z3, z4, z5, z6, z7, z8, z9, z10⟩, ez, hz⟩ := hl
  obtain ⟨⟨v0, v1, v2, v3, v4⟩, ev, hv⟩ := hm
  have er : v0 = z0 := hv.trans hz.1.symm
  subst er
  refine ⟨v0, _, _, ⟨z1, z2, z3, z4, z5, z6, z7, z8, z9, z10, ez, rfl⟩, ⟨v1, v2, v3, v4, ev, rfl⟩, ?_⟩
  refine ⟨hS, hK, hN, d, be, ga, hT, ⟨e1, b1, c1, ?_⟩, e2, b2, c2⟩
  rcases hz.2 with ⟨w, h⟩ | h
  · cases h; exact hj
  · exact Or.inr h
theorem op_bound (σ : St) (x1 : Int32) (x2 : Int32) (h : Inv σ) : ∃ (r : Int64) (σ1 σ2 : St), eL_bound x1 x2 σ r σ1 ∧ eM_bound x1 x2 σ1 r σ2 ∧ Inv σ2 := by
  obtain ⟨r, h1, h2⟩ := bound_any x1 x2
  exact ⟨r, σ, σ, ⟨h1, rfl⟩, ⟨h2, rfl⟩, h⟩
theorem op_tell (σ : St) (x1 : Int32) (h : Inv σ) : ∃ (r : Int32) (σ1 σ2 : St), eL_tell x1 σ r σ1 ∧ eM_tell x1 σ1 r σ2 ∧ Inv σ2 := by
  obtain ⟨hS, hK, hN, d, be, ga, hT, ⟨e1, b1, c1, hj⟩, e2, b2, c2⟩ := h
  rcases tell_any x1 with ⟨h1, h2⟩ | ⟨d2, hT2, h1, h2⟩
  · exact ⟨-1, _, _, ⟨_, _, _, _, h1 (σ.1 1804) (σ.1 1800) (σ.2.2.1 29) (σ.2.2.1 30), rfl⟩, ⟨_, _, _, h2 (σ.1 3208) (σ.2.2.1 56) (σ.2.2.1 57), rfl⟩, hS, hK, hN, d, be, ga, hT, ⟨e1, b1, c1, hj⟩, e2, b2, c2⟩
  · obtain ⟨⟨z0, z1, z2, z3, z4⟩, ez, q0, q1, q2, q3, q4⟩ := h1 (σ.1 1804) (σ.1 1800) (σ.2.2.1 29) (σ.2.2.1 30)
    obtain ⟨⟨v0, v1, v2, v3⟩, ev, p0, p1, p2, p3⟩ := h2 (σ.1 3208) (σ.2.2.1 56) (σ.2.2.1 57)
    have er : v0 = z0 := p0.trans q0.symm
    subst er
    exact ⟨v0, _, _, ⟨z1, z2, z3, z4, ez, rfl⟩, ⟨v1, v2, v3, ev, rfl⟩, hS, hK, hN, d2, t0b d2, t0c d2, hT2, ⟨q2, q3, q4, Or.inl q1⟩, p1, p2, p3⟩
theorem op_put (σ : St) (x1 : Int32) (x2 : Int32) (x3 : Int32) (h : Inv σ) : ∃ (r : Int32) (σ1 σ2 : St), eL_put x1 x2 x3 σ r σ1 ∧ eM_put x1 x2 x3 σ1 r σ2 ∧ Inv σ2 := by
  obtain ⟨hS, hK, hN, d, be, ga, hT, ⟨e1, b1, c1, hj⟩, e2, b2, c2⟩ := h
  rcases put_any x1 x2 x3 hT with ⟨h1, h2⟩ | ⟨be2, ga2, hT2, h1, h2⟩
  · have h1 := h1 (σ.1 1804) (σ.2.2.1 29) (σ.2.2.1 30)
    have h2 := h2 (σ.2.2.1 56) (σ.2.2.1 57)
    rw [← e1] at h1
    rw [← e2] at h2
    exact ⟨-1, _, _, ⟨_, _, _, h1, rfl⟩, ⟨_, _, h2, rfl⟩, hS, hK, hN, d, be, ga, hT, ⟨e1, b1, c1, hj⟩, e2, b2, c2⟩
  · have h1 := h1 (σ.1 1804) (σ.2.2.1 29) (σ.2.2.1 30) b1 c1
    have h2 := h2 (σ.2.2.1 56) (σ.2.2.1 57) b2 c2
    rw [← e1] at h1
    rw [← e2] at h2
    obtain ⟨⟨z0, z1, z2, z3⟩, ez, q0, q1, q2, q3⟩ := h1
    obtain ⟨⟨v0, v1, v2⟩, ev, p0, p1, p2⟩ := h2
    have er : v0 = z0 := p0.trans q0.symm
    subst er
    exact ⟨v0, _, _, ⟨z1, z2, z3, ez, rfl⟩, ⟨v1, v2, ev, rfl⟩, hS, hK, hN, d, be2, ga2, hT2, ⟨e1, q2, q3, Or.inl q1⟩, e2, p1, p2⟩
