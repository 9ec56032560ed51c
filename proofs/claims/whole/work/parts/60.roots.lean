
/-! the roots -/
def rB (be ga : Nat → Nat) (d s : Nat) : Bool := decide (uZ be ga ((be 0 : Int) - s) (d + 1) = 0)
def rM (be : Nat → Nat) : Nat := 2 * be 0 + 1
def rC (be ga : Nat → Nat) (d : Nat) : Nat := fb_ct (rB be ga d) (rM be)
def rV (be ga : Nat → Nat) (d k : Nat) : Int32 := iZ ((be 0 : Int) - kt (rB be ga d) (rM be) k)
def rTs (be ga : Nat → Nat) (d s : Nat) : Int32 := tmI be ga d ((be 0 : Int) - s)
def rT (be ga : Nat → Nat) (d k : Nat) : Int32 := rTs be ga d (kt (rB be ga d) (rM be) k)
def L7 (d : Nat) (be ga : Nat → Nat) : Prop := ∀ s, s < rM be → rB be ga d s = true → 0 ≤ rTs be ga d s
theorem iZ_add (a b : Int) : iZ a + iZ b = iZ (a + b) := (Int32.ofInt_add a b).symm
theorem iZ_lt {a b : Int} (h1 : -2147483648 ≤ a) (h2 : a < 2147483648) (h3 : -2147483648 ≤ b) (h4 : b < 2147483648) : iZ a < iZ b ↔ a < b := by
  rw [Int32.lt_iff_toInt_lt, iZ_toInt h1 h2, iZ_toInt h3 h4]
theorem ngI (n : Nat) : -(nI n) = iZ (-(n : Int)) := (Int32.ofInt_neg (n : Int)).symm
theorem sub_dn (x y : Int32) : x - y + -1 = x - (y + 1) := by
  rw [Int32.sub_eq_add_neg, Int32.sub_eq_add_neg, Int32.neg_add, Int32.sub_eq_add_neg, Int32.add_assoc]
section ROOTS
variable {d : Nat} {be ga : Nat → Nat} {b c : Nat → Int32}
theorem rC_le (be ga : Nat → Nat) (d : Nat) : rC be ga d ≤ d + 1 := by
  refine Mon_count (uZ_Mon be ga d).2 (rC be ga d) (fun k => (be 0 : Int) - kt (rB be ga d) (rM be) k) (fun i hi => ?_) (fun i j hij hj h => ?_)
  · exact of_decide_eq_true (kt_is hi).2.1
  · have a := (kt_is (show i < fb_ct (rB be ga d) (rM be) by have := hj; unfold rC at this; omega)).2.2
    have b := (kt_is hj).2.2
    have e : kt (rB be ga d) (rM be) i = kt (rB be ga d) (rM be) j := by
      have h : (be 0 : Int) - kt (rB be ga d) (rM be) i = (be 0 : Int) - kt (rB be ga d) (rM be) j := h
      omega
    rw [e, b] at a
    omega
theorem r_down (s : Nat) (n : Nat) : iZ ((n : Int) - s) + -1 = iZ ((n : Int) - (s + 1 : Nat)) := by
  rw [show (-1 : Int32) = iZ (-1) from rfl, iZ_add]
  congr 1
  omega
theorem r_in {s n : Nat} (hn : n ≤ 20) (h : s < 2 * n + 1) : ¬ iZ ((n : Int) - s) < -(nI n) := by
  rw [ngI, iZ_lt (by omega) (by omega) (by omega) (by omega)]
  omega
theorem r_out {n : Nat} (hn : n ≤ 20) : iZ ((n : Int) - (2 * n + 1 : Nat)) < -(nI n) := by
  rw [ngI, iZ_lt (by omega) (by omega) (by omega) (by omega)]
  omega
theorem ct_yes {P : Nat → Bool} {s : Nat} (h : P s = true) : fb_ct P (s + 1) = fb_ct P s + 1 := by rw [fb_ct_succ, h]; rfl
theorem ct_no {P : Nat → Bool} {s : Nat} (h : P s = false) : fb_ct P (s + 1) = fb_ct P s := by rw [fb_ct_succ, h]; rfl
def FR (d : Nat) (be ga : Nat → Nat) (f rc : Int32) (ro ti : Nat → Int32) : Prop := ((L7 d be ga → f = 1) ∧ (¬ L7 d be ga → f = 0)) ∧ rc = nI (rC be ga d) ∧ ∀ k, k < rC be ga d → ro k = rV be ga d k ∧ ti k = rT be ga d k
theorem Td_findRoots_s {rc : Int32} {ro ti : Nat → Int32} {u : Nat → Int64} (hT : TT d be ga) (hb : TB b be) (hc : TB c ga) (h1 : L1 d be ga) (h2 : L2 d be ga) (h4 : L4 d be ga) (h6 : L6 d be ga) (hr : ∀ j, j < d + 1 → RO d be ga j) : Ok (Td_findRoots (nI d) rc (lN (tN be ga d)) b c ro ti u) (fun z => FR d be ga z.1 z.2.1 z.2.2.1 z.2.2.2.1) := by
  have hd := hT.1
  have p0 := (hT.2.1 0 (by omega)).1
  unfold Td_findRoots
  rw [show (0 : Int32).toNatClampNeg = 0 from rfl, hb 0 (by omega)]
  refine fr6 (fun F x1 x2 rc ro ti u => Td_findRoots_l14 (nI d) (lN (tN be ga d)) b c F x1 x2 rc ro ti u) (fun s x1 x2 rc ro ti u => x2 = iZ ((be 0 : Int) - s) ∧ rc = nI (fb_ct (rB be ga d) s) ∧ (∃ t : Bool, x1 = bI t ∧ (t = true ↔ ∀ s', s' < s → rB be ga d s' = true → 0 ≤ rTs be ga d s')) ∧ ∀ k, k < fb_ct (rB be ga d) s → ro k = rV be ga d k ∧ ti k = rT be ga d k) (rM be) (fuel_big (by unfold rM; omega)) ?_ ?_ 0 (Nat.zero_le _) 1 (nI (be 0)) 0 ro ti u ⟨?_, rfl, ⟨true, rfl, fun _ => all_none, fun _ => rfl⟩, all_none⟩
  · rintro s hs x1 x2 rc ro ti u ⟨rfl, rfl, ⟨t, rfl, ht⟩, hk⟩ F ih
    have hs2 : s < 2 * be 0 + 1 := hs
    have cm := fb_ct_mono (rB be ga d) (show s + 1 ≤ rM be by omega)
    have c6 : fb_ct (rB be ga d) (rM be) ≤ d + 1 := rC_le be ga d
    rw [Td_findRoots_l14_s]
    unfold Td_findRoots_n14 Td_findRoots_n97 Td_findRoots_n85 Td_findRoots_n86 Td_findRoots_n97
    rw [show (0 : Int32).toNatClampNeg = 0 from rfl, hb 0 (by omega), r_down]
    refine ok_f (r_in p0 hs2) (ok_b (Td_isRoot_s hT hb hc h2 (by omega) (by omega)) (fun z hz => ?_))
    rcases hB : rB be ga d s with _ | _
    · have e : z.1 = 0 := by rw [hz.1]; exact bI_eq0.mpr hB
      refine ok_t e (ih _ _ _ _ _ _ ⟨rfl, by rw [ct_no hB], ⟨t, rfl, ht.trans ⟨fun h => all_next.mpr ⟨h, fun h => by rw [hB] at h; exact absurd h (by decide)⟩, fun h => (all_next.mp h).1⟩⟩, by rw [ct_no hB]; exact hk⟩)
    · have e : ¬ z.1 = 0 := by
        rw [hz.1]
        exact fun h => absurd ((bI_eq0.mp h).symm.trans hB) (by decide)
      have cy := ct_yes hB
      have c5 : fb_ct (rB be ga d) s < 6 := by omega
      have kk : kt (rB be ga d) (rM be) (fb_ct (rB be ga d) s) = s := kt_of hs hB
      have hk2 : ∀ k, k < fb_ct (rB be ga d) (s + 1) → upd ro (fb_ct (rB be ga d) s) (iZ ((be 0 : Int) - s)) k = rV be ga d k ∧ upd ti (fb_ct (rB be ga d) s) (rTs be ga d s) k = rT be ga d k := by
        rw [cy]
        refine all_next.mpr ⟨fun k hk' => ?_, ?_⟩
        · rw [updN (by omega), updN (by omega)]
          exact hk k hk'
        · rw [updS, updS]
          unfold rV rT
          rw [kk]
          exact ⟨rfl, rfl⟩
      rw [cl_nI (by omega)]
      refine ok_f e (ok_f (nI_ge (a := fb_ct (rB be ga d) s) (b := 6) c5 (by decide)) (ok_g (inb_nI c5 (by omega)) (ok_e (Td_timesOfScaled_s hT hb hc h1 h4 h6 hr (of_decide_eq_true hB) hz.2) ?_)))
      have go : ∀ t2 : Bool, (t2 = true ↔ t = true ∧ 0 ≤ rTs be ga d s) → Ok (Td_findRoots_l14 (nI d) (lN (tN be ga d)) b c F (bI t2) (iZ ((be 0 : Int) - (s + 1 : Nat))) (nI (fb_ct (rB be ga d) s) + 1) (upd ro (fb_ct (rB be ga d) s) (iZ ((be 0 : Int) - s))) (upd ti (fb_ct (rB be ga d) s) (rTs be ga d s)) z.2) (fun z => FR d be ga z.1 z.2.1 z.2.2.1 z.2.2.2.1) := fun t2 h => ih _ _ _ _ _ _ ⟨rfl, by rw [cy, nI_1], ⟨t2, rfl, h.trans ⟨fun h => all_next.mpr ⟨ht.mp h.1, fun _ => h.2⟩, fun h => ⟨ht.mpr (all_next.mp h).1, (all_next.mp h).2 hB⟩⟩⟩, hk2⟩
      rw [updS]
      refine ok_i (fun q => go false ⟨fun h => absurd h (by decide), fun h => ?_⟩) (fun q => ok_i (fun q2 => go false ⟨fun h => absurd h (by decide), fun h => ?_⟩) (fun q2 => go true ⟨fun _ => ⟨not_t q, nlt_le.mp q2⟩, fun _ => rfl⟩))
      · have := h.1
        rw [bI_eq0.mp q] at this; exact this
      · exact absurd q2 (nlt_le.mpr h.2)
  · rintro x1 x2 rc ro ti u ⟨rfl, rfl, ⟨t, rfl, ht⟩, hk⟩ F
    rw [Td_findRoots_l14_s]
    unfold Td_findRoots_n14 Td_findRoots_n103
    rw [show (0 : Int32).toNatClampNeg = 0 from rfl, hb 0 (by omega)]
    refine ok_t (r_out p0) (ok_g (isb_bI t) (ok_s ⟨⟨fun h => ?_, fun h => ?_⟩, rfl, hk⟩))
    · show bI t = 1
      rw [ht.mpr h]; rfl
    · show bI t = 0
      cases t
      · rfl
      · exact absurd (ht.mp rfl) h
  · rw [nI_iZ]; exact congrArg iZ (by omega)
theorem M_areTimesWhole_s {k u : Nat → Int64} (hT : TT d be ga) (hb : TB b be) (hc : TB c ga) (h1 : L1 d be ga) (h2 : L2 d be ga) (h4 : L4 d be ga) (h6 : L6 d be ga) (hr : ∀ j, j < d + 1 → RO d be ga j) (hk : ∀ j, j < d + 1 → k j = lN (kN be ga j)) : Ok (M_areTimesWhole (nI d) (lN (tN be ga d)) b c k u) (fun z => (L7 d be ga → z.1 = 1) ∧ (¬ L7 d be ga → z.1 = 0)) := by
  have hd := hT.1
  have p0 := (hT.2.1 0 (by omega)).1
  unfold M_areTimesWhole
  rw [show (0 : Int32).toNatClampNeg = 0 from rfl, hb 0 (by omega)]
  refine fr3 (fun F x1 x2 u => M_areTimesWhole_l9 (nI d) (lN (tN be ga d)) b c k F x1 x2 u) (fun s x1 x2 u => x2 = iZ ((be 0 : Int) - s) ∧ (∃ t : Bool, x1 = bI t ∧ (t = true ↔ ∀ s', s' < s → rB be ga d s' = true → 0 ≤ rTs be ga d s'))) (rM be) (fuel_big (by unfold rM; omega)) ?_ ?_ 0 (Nat.zero_le _) 1 (nI (be 0)) u ⟨?_, ⟨true, rfl, fun _ => all_none, fun _ => rfl⟩⟩
  · rintro s hs x1 x2 u ⟨rfl, ⟨t, rfl, ht⟩⟩ F ih
    have hs2 : s < 2 * be 0 + 1 := hs
    rw [M_areTimesWhole_l9_s]
    unfold M_areTimesWhole_n9 M_areTimesWhole_n43 M_areTimesWhole_n39 M_areTimesWhole_n44
    rw [show (0 : Int32).toNatClampNeg = 0 from rfl, hb 0 (by omega), r_down]
    have go : ∀ (t2 : Bool) (u : Nat → Int64), (t2 = true ↔ t = true ∧ (rB be ga d s = true → 0 ≤ rTs be ga d s)) → Ok (M_areTimesWhole_l9 (nI d) (lN (tN be ga d)) b c k F (bI t2) (iZ ((be 0 : Int) - (s + 1 : Nat))) u) (fun z => (L7 d be ga → z.1 = 1) ∧ (¬ L7 d be ga → z.1 = 0)) := fun t2 u h => ih _ _ _ ⟨rfl, ⟨t2, rfl, h.trans ⟨fun h => all_next.mpr ⟨ht.mp h.1, h.2⟩, fun h => ⟨ht.mpr (all_next.mp h).1, (all_next.mp h).2⟩⟩⟩⟩
    refine ok_f (r_in p0 hs2) (ok_i (fun q => go false _ ⟨fun h => absurd h (by decide), fun h => ?_⟩) (fun q => ok_b (M_isRoot_s hT hb hc h2 (by omega) (by omega)) (fun z hz => ?_)))
    · have := h.1
      rw [bI_eq0.mp q] at this; exact this
    rcases hB : rB be ga d s with _ | _
    · have e : z.1 = 0 := by rw [hz.1]; exact bI_eq0.mpr hB
      exact ok_t e (go true _ ⟨fun _ => ⟨not_t q, fun h => absurd (hB.symm.trans h) (by decide)⟩, fun _ => rfl⟩)
    · have e : ¬ z.1 = 0 := by
        rw [hz.1]
        exact fun h => absurd ((bI_eq0.mp h).symm.trans hB) (by decide)
      refine ok_f e (ok_e (M_times_s hT hb h1 h4 h6 hr (of_decide_eq_true hB) hk hz.2) (ok_i (fun q2 => go false _ ⟨fun h => absurd h (by decide), fun h => ?_⟩) (fun q2 => go true _ ⟨fun _ => ⟨not_t q, fun _ => nlt_le.mp q2⟩, fun _ => rfl⟩)))
      exact absurd q2 (nlt_le.mpr (h.2 hB))
  · rintro x1 x2 u ⟨rfl, ⟨t, rfl, ht⟩⟩ F
    rw [M_areTimesWhole_l9_s]
    unfold M_areTimesWhole_n9 M_areTimesWhole_n51
    rw [show (0 : Int32).toNatClampNeg = 0 from rfl, hb 0 (by omega)]
    refine ok_t (r_out p0) (ok_g (isb_bI t) (ok_s ⟨fun h => ?_, fun h => ?_⟩))
    · show bI t = 1
      rw [ht.mpr h]; rfl
    · show bI t = 0
      cases t
      · rfl
      · exact absurd (ht.mp rfl) h
  · rw [nI_iZ]; exact congrArg iZ (by omega)
theorem M_rootL_s {x1 x2 : Int32} {k th u : Nat → Int64} (hT : TT d be ga) (hb : TB b be) (hc : TB c ga) (h1 : L1 d be ga) (h2 : L2 d be ga) (h4 : L4 d be ga) (h6 : L6 d be ga) (hr : ∀ j, j < d + 1 → RO d be ga j) (hk : ∀ j, j < d + 1 → k j = lN (kN be ga j)) : Ok (M_root_l35 (nI d) b c FUEL x2 x1 (nI (be 0)) (lN (tN be ga d)) k th u) (fun z => (∀ k, k < rC be ga d → x1 = nI k → z.1 = if x2 = 0 then rV be ga d k else rT be ga d k) ∧ ((∀ k, k < rC be ga d → ¬ x1 = nI k) → z.1 = -1002)) := by
  have hd := hT.1
  have p0 := (hT.2.1 0 (by omega)).1
  have c6 : rC be ga d ≤ d + 1 := rC_le be ga d
  refine fr3 (fun F x3 x4 u => M_root_l35 (nI d) b c F x2 x3 x4 (lN (tN be ga d)) k th u) (fun s x3 x4 u => x4 = iZ ((be 0 : Int) - s) ∧ x3 = x1 - nI (fb_ct (rB be ga d) s) ∧ ∀ k, k < fb_ct (rB be ga d) s → ¬ x1 = nI k) (rM be) (fuel_big (by unfold rM; omega)) ?_ ?_ 0 (Nat.zero_le _) x1 (nI (be 0)) u ⟨?_, ?_, all_none⟩
  · rintro s hs x3 x4 u ⟨rfl, rfl, hn⟩ F ih
    have hs2 : s < 2 * be 0 + 1 := hs
    rw [M_root_l35_s]
    unfold M_root_n35 M_root_n77 M_root_n60 M_root_n73
    rw [show (0 : Int32).toNatClampNeg = 0 from rfl, hb 0 (by omega), r_down]
    refine ok_f (r_in p0 hs2) (ok_b (M_isRoot_s hT hb hc h2 (by omega) (by omega)) (fun z hz => ?_))
    rcases hB : rB be ga d s with _ | _
    · have e : z.1 = 0 := by rw [hz.1]; exact bI_eq0.mpr hB
      exact ok_t e (ih _ _ _ ⟨rfl, by rw [ct_no hB], by rw [ct_no hB]; exact hn⟩)
    · have e : ¬ z.1 = 0 := by
        rw [hz.1]
        exact fun h => absurd ((bI_eq0.mp h).symm.trans hB) (by decide)
      have kk : kt (rB be ga d) (rM be) (fb_ct (rB be ga d) s) = s := kt_of hs hB
      have cl : fb_ct (rB be ga d) s < rC be ga d := ct_lt hs hB
      refine ok_f e (ok_i (fun q => ?_) (fun q => ih _ _ _ ⟨rfl, ?_, ?_⟩))
      · have hx : x1 = nI (fb_ct (rB be ga d) s) := by
          have := congrArg (· + nI (fb_ct (rB be ga d) s)) q
          simpa [Int32.sub_add_cancel, Int32.zero_add] using this
        have fin : ∀ v : Int32, v = (if x2 = 0 then rV be ga d (fb_ct (rB be ga d) s) else rT be ga d (fb_ct (rB be ga d) s)) → (∀ k, k < rC be ga d → x1 = nI k → v = if x2 = 0 then rV be ga d k else rT be ga d k) ∧ ((∀ k, k < rC be ga d → ¬ x1 = nI k) → v = -1002) := by
          intro v hv
          refine ⟨fun k hk' hxk => ?_, fun h => absurd hx (h _ cl)⟩
          have : fb_ct (rB be ga d) s = k := (nI_eq (by omega) (by omega)).mp (hx.symm.trans hxk)
          rw [← this]; exact hv
        refine ok_i (fun q2 => ok_s (fin _ ?_)) (fun q2 => ok_e (M_times_s hT hb h1 h4 h6 hr (of_decide_eq_true hB) hk hz.2) (ok_s (fin _ ?_)))
        · rw [if_pos q2]; unfold rV; rw [kk]
        · rw [if_neg q2]; unfold rT; rw [kk]; rfl
      · rw [ct_yes hB, ← nI_1]; exact sub_dn _ _
      · rw [ct_yes hB]
        refine all_next.mpr ⟨hn, fun h => q ?_⟩
        rw [h, Int32.sub_self]
  · rintro x3 x4 u ⟨rfl, rfl, hn⟩ F
    rw [M_root_l35_s]
    unfold M_root_n35 M_root_n83
    rw [show (0 : Int32).toNatClampNeg = 0 from rfl, hb 0 (by omega)]
    exact ok_t (r_out p0) (ok_s ⟨fun k hk' h => absurd h (hn k hk'), fun _ => rfl⟩)
  · rw [nI_iZ]; exact congrArg iZ (by omega)
  · show x1 = x1 - nI 0
    rw [show nI 0 = 0 from rfl, Int32.sub_zero]
end ROOTS
