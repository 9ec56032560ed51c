theorem wy_99 {d : Nat} : wy d = 99 ↔ ¬ d < 33 := by
  rw [wy_wv, lit99]
  have := wv_le d
  rw [nI_eq (by omega) (by omega)]
  unfold wv
  by_cases g : d < 33
  · rw [if_pos g]; omega
  · rw [if_neg g]; omega
theorem wy_nI {d j : Nat} (hj : j < 2 ^ 31) (hd : d < 33) : wy d = nI j ↔ d = j := by
  unfold wy
  rw [if_pos hd, nI_eq (by omega) hj]
theorem M_thirds_s {n : Nat} {x y j l : Int32} {road w0 : Nat → Int32} {f0 g0 im : Int32} {adj : Nat → Nat → Bool} (hw : WF n adj) (hb : Mb road adj) (hc : MC adj n f0 g0 im w0) : Ok (M_thirds x y j l f0 g0 im (nI n) road w0) (fun z => z.1 = spThirds adj n x y j l ∧ MC adj n z.2.1 z.2.2.1 z.2.2.2.1 z.2.2.2.2) := by
  have hn := hw.1
  unfold M_thirds M_thirds_n25
  refine ok_e (M_isPost_s (by omega)) ?_
  cases hx : inb x n
  · exact ok_t (by decide) (ok_s ⟨by unfold spThirds; rw [hx, if_neg (by simp)], hc⟩)
  · refine ok_f (by decide) (ok_e (M_isPost_s (by omega)) ?_)
    cases hy : inb y n
    · exact ok_t (by decide) (ok_s ⟨by unfold spThirds; rw [hx, hy, if_neg (by simp)], hc⟩)
    · refine ok_f (by decide) (ok_i (fun c1 => ok_s ⟨by unfold spThirds; rw [if_neg (fun h => h.2.2.1 c1)], hc⟩) (fun c1 => ok_i (fun c2 => ?_) (fun c2 => ok_s ⟨by unfold spThirds; rw [if_neg (fun h => c2 h.2.2.2)], hc⟩)))
      obtain ⟨j', hj, rfl⟩ := nI_of c1
      obtain ⟨l', hl, rfl⟩ := nI_of (x := l) (fun g => by rw [Int32.lt_iff_toInt_lt] at g; rw [Int32.le_iff_toInt_le] at c2; omega)
      obtain ⟨p, hp, rfl⟩ := inb_of hx (by omega)
      obtain ⟨q, hq, rfl⟩ := inb_of hy (by omega)
      refine ok_b (M_measure_c hw hb hc) (fun z hz => ?_)
      obtain ⟨f, g, i, w⟩ := z
      have hm : ∀ p, p < n → ∀ q, q < 32 → w (32 * p + q) = wy (dN adj n p q) := hz.2.1
      have e : spThirds adj n (nI p) (nI q) (nI j') (nI l') = nI (thN adj n p q j' l') := by
        unfold spThirds
        rw [hx, hy, if_pos ⟨rfl, rfl, c1, c2⟩, cl_nI (by omega), cl_nI (by omega), cl_nI hj, cl_nI hl]
      rw [e]
      refine loop_ok (fun F (s : Int32 × Int32) => M_thirds_l37 (nI n) F (nI p) (nI q) (nI j') (nI l') s.1 s.2 f g i w) (fun k s => s = (nI (fb_ct (fun z => decide ((dN adj n p z = j' ∧ dN adj n p z < 33) ∧ dN adj n q z = l' ∧ dN adj n q z < 33)) k), nI k)) n (fuel_big (by omega)) ?_ ?_ 0 (Nat.zero_le _) (0, 0) rfl
      · rintro k hk s rfl F ih
        show Ok (M_thirds_l37 (nI n) (F + 1) (nI p) (nI q) (nI j') (nI l') (nI _) (nI k) f g i w) _
        rw [M_thirds_l37_s]
        unfold M_thirds_n37 M_thirds_n84 M_thirds_n85 M_thirds_n131 M_thirds_n132
        rw [i32, i32, cl_nI (by omega), cl_nI (by omega), hm p hp k (by omega), hm q hq k (by omega)]
        have no : ¬ ((dN adj n p k = j' ∧ dN adj n p k < 33) ∧ dN adj n q k = l' ∧ dN adj n q k < 33) → Ok (M_thirds_l37 (nI n) F (nI p) (nI q) (nI j') (nI l') (nI (fb_ct (fun z => decide ((dN adj n p z = j' ∧ dN adj n p z < 33) ∧ dN adj n q z = l' ∧ dN adj n q z < 33)) k) + 0) (nI k + 1) f g i w) _ := fun hno => ih (nI (fb_ct (fun z => decide ((dN adj n p z = j' ∧ dN adj n p z < 33) ∧ dN adj n q z = l' ∧ dN adj n q z < 33)) k) + 0, nI k + 1) (by
          rw [nI_1, fb_ct_succ, decide_eq_false hno, show (0 : Int32) = nI 0 from rfl, nI_add]; rfl)
        refine ok_f (nI_ge hk (by omega)) (ok_g (inb_nI (by omega) (by omega)) (ok_i (fun c => ok_t (by decide) (no (fun h => wy_99.mp c h.1.2))) (fun c => ok_g (inb_nI (by omega) (by omega)) (ok_i (fun d => ok_t (by decide) (no (fun h => wy_99.mp d h.2.2))) (fun d => ?_)))))
        have c : dN adj n p k < 33 := Classical.byContradiction (fun g => c (wy_99.mpr g))
        have d : dN adj n q k < 33 := Classical.byContradiction (fun g => d (wy_99.mpr g))
        refine ok_f (by decide) (ok_g (inb_nI (by omega) (by omega)) (ok_i (fun c3 => ok_g (inb_nI (by omega) (by omega)) (ok_i (fun c4 => ?_) (fun c4 => no (fun h => c4 ((wy_nI hl d).mpr h.2.1))))) (fun c3 => no (fun h => c3 ((wy_nI hj c).mpr h.1.1)))))
        refine ih (nI (fb_ct (fun z => decide ((dN adj n p z = j' ∧ dN adj n p z < 33) ∧ dN adj n q z = l' ∧ dN adj n q z < 33)) k) + 1, nI k + 1) ?_
        rw [nI_1, nI_1, fb_ct_succ, decide_eq_true ⟨⟨(wy_nI hj c).mp c3, c⟩, (wy_nI hl d).mp c4, d⟩]; rfl
      · rintro s rfl F
        show Ok (M_thirds_l37 (nI n) (F + 1) (nI p) (nI q) (nI j') (nI l') (nI _) (nI n) f g i w) _
        rw [M_thirds_l37_s]
        unfold M_thirds_n37 M_thirds_n141
        exact ok_t (nI_le (Nat.le_refl n) (by omega)) (ok_s ⟨rfl, Or.inr hz⟩)
