/-! how many bits are set -/
def cnt (x : Int32) : Nat := fb_ct (bt x) 32
def nN (x : Int32) : Nat := x.toBitVec.toNat
theorem nN_lt (x : Int32) : nN x < 4294967296 := x.toBitVec.isLt
theorem nN_and (x y : Int32) : nN (x &&& y) = nN x &&& nN y := by unfold nN; rw [Int32.toBitVec_and, BitVec.toNat_and]
theorem nN_add (x y : Int32) : nN (x + y) = (nN x + nN y) % 4294967296 := by unfold nN; rw [Int32.toBitVec_add, BitVec.toNat_add]
theorem nN_sub {x y : Int32} (h : nN y ≤ nN x) : nN (x - y) = nN x - nN y := by
  have h1 := nN_lt x
  have h2 := nN_lt y
  unfold nN at *
  rw [Int32.toBitVec_sub, BitVec.toNat_sub]
  omega
theorem nN_inj {x y : Int32} (h : nN x = nN y) : x = y := Int32.toBitVec_inj.mp (BitVec.eq_of_toNat_eq h)
theorem nN_nI {n : Nat} (h : n < 4294967296) : nN (nI n) = n := pk_tn h
theorem bt_nN (x : Int32) (i : Nat) : bt x i = (nN x).testBit i := by unfold bt nN; rw [BitVec.testBit_toNat]
theorem and8 {a m : Nat} (ha : a < 256) (hm : m < 256) (b n : Nat) : (a + 256 * b) &&& (m + 256 * n) = (a &&& m) + 256 * (b &&& n) := by
  have h1 : a &&& m < 256 := Nat.and_lt_two_pow (n := 8) a hm
  apply Nat.eq_of_testBit_eq
  intro i
  have e : ∀ u v : Nat, u < 256 → (u + 256 * v).testBit i = if i < 8 then u.testBit i else v.testBit (i - 8) := by
    intro u v hu
    rw [Nat.add_comm, show 256 * v = 2 ^ 8 * v from rfl, Nat.testBit_two_pow_mul_add v hu]
  rw [Nat.testBit_and, e a b ha, e m n hm, e _ _ h1]
  split
  · rw [Nat.testBit_and]
  · rw [Nat.testBit_and]
def pop8 (a : Nat) : Nat := fb_ct (fun i => a.testBit i) 8
theorem swar1 : ∀ a, a < 256 → ∀ t, t < 2 → (a / 2 + 128 * t) &&& 85 = (a / 2) &&& 85 := by decide +kernel
theorem swar1b : ∀ a, a < 256 → (a / 2) &&& 85 ≤ a := by decide +kernel
theorem swar2 : ∀ a, a < 256 → ∀ t, t < 4 → (a / 4 + 64 * t) &&& 51 = (a / 4) &&& 51 := by decide +kernel
def sw1 (a : Nat) : Nat := a - ((a / 2) &&& 85)
def sw2 (a : Nat) : Nat := (sw1 a &&& 51) + ((sw1 a / 4) &&& 51)
theorem swar3 : ∀ a, a < 256 → sw1 a < 256 ∧ sw2 a ≤ 68 ∧ pop8 a ≤ 8 ∧ ∀ t, t < 16 → t ≤ 4 → (sw2 a + sw2 a / 16 + 16 * t) &&& 15 = pop8 a := by decide +kernel
theorem sw2_mod : ∀ a, a < 256 → sw2 a % 16 ≤ 4 ∧ sw2 a % 16 < 16 := by decide +kernel
theorem bytes (n : Nat) (h : n < 4294967296) : ∃ a b c d, a < 256 ∧ b < 256 ∧ c < 256 ∧ d < 256 ∧ n = a + 256 * (b + 256 * (c + 256 * d)) :=
  ⟨n % 256, n / 256 % 256, n / 65536 % 256, n / 16777216, by omega, by omega, by omega, by omega, by omega⟩
theorem ush_nN (x : Int32) (k : Nat) (s : Int32) (hs : ((s.toUInt32 &&& Int32.toUInt32 31).toBitVec % 32).toNat = k) : nN ((x.toUInt32 >>> (s.toUInt32 &&& Int32.toUInt32 31)).toInt32) = nN x / 2 ^ k := pk_ushr x s k hs
theorem cnt_bytes {x : Int32} {a b c d : Nat} (ha : a < 256) (hb : b < 256) (hc : c < 256) (hd : d < 256) (h : nN x = a + 256 * (b + 256 * (c + 256 * d))) : cnt x = pop8 a + pop8 b + pop8 c + pop8 d := by
  have tb : ∀ u v i : Nat, u < 256 → (u + 256 * v).testBit i = if i < 8 then u.testBit i else v.testBit (i - 8) := by
    intro u v i hu
    rw [Nat.add_comm, show 256 * v = 2 ^ 8 * v from rfl, Nat.testBit_two_pow_mul_add v hu]
  have e : ∀ i, bt x i = (a + 256 * (b + 256 * (c + 256 * d))).testBit i := fun i => by rw [bt_nN, h]
  unfold cnt pop8
  rw [show (32 : Nat) = 8 + (8 + (8 + 8)) from rfl, fb_ct_split, fb_ct_split, fb_ct_split]
  have h1 : fb_ct (bt x) 8 = fb_ct (fun i => a.testBit i) 8 := fb_ct_cong (fun k hk => by rw [e, tb _ _ _ ha, if_pos hk])
  have h2 : fb_ct (fun k => bt x (8 + k)) 8 = fb_ct (fun i => b.testBit i) 8 := fb_ct_cong (fun k hk => by
    rw [e, tb _ _ _ ha, if_neg (by omega), show 8 + k - 8 = k by omega, tb _ _ _ hb, if_pos hk])
  have h3 : fb_ct (fun k => bt x (8 + (8 + k))) 8 = fb_ct (fun i => c.testBit i) 8 := fb_ct_cong (fun k hk => by
    rw [e, tb _ _ _ ha, if_neg (by omega), tb _ _ _ hb, if_neg (by omega), show 8 + (8 + k) - 8 - 8 = k by omega, tb _ _ _ hc, if_pos hk])
  have h4 : fb_ct (fun k => bt x (8 + (8 + (8 + k)))) 8 = fb_ct (fun i => d.testBit i) 8 := fb_ct_cong (fun k hk => by
    rw [e, tb _ _ _ ha, if_neg (by omega), tb _ _ _ hb, if_neg (by omega), tb _ _ _ hc, if_neg (by omega), show 8 + (8 + (8 + k)) - 8 - 8 - 8 = k by omega])
  rw [h1, h2, h3, h4]
  omega
theorem swar5 (a b c d : Nat) (ha : a ≤ 8) (hb : b ≤ 8) (hc : c ≤ 8) (hd : d ≤ 8) : ((a + b) + 256 * ((b + c) + 256 * ((c + d) + 256 * d)) + ((a + b) + 256 * ((b + c) + 256 * ((c + d) + 256 * d))) / 2 ^ 16) % 4294967296 = (a + b + c + d) + 256 * ((b + c + d) + 256 * ((c + d) + 256 * d)) := by
  have h : ((a + b) + 256 * ((b + c) + 256 * ((c + d) + 256 * d))) / 2 ^ 16 = (c + d) + 256 * d := by omega
  rw [h, Nat.mod_eq_of_lt (by omega)]
  omega
theorem JI_bitCount_s (x : Int32) : JI_bitCount x = some (nI (cnt x)) := by
  obtain ⟨a, b, c, d, ha, hb, hc, hd, hX⟩ := bytes (nN x) (nN_lt x)
  obtain ⟨a1, a2, a3, a4⟩ := swar3 a ha
  obtain ⟨b1, b2, b3, b4⟩ := swar3 b hb
  obtain ⟨c1, c2, c3, c4⟩ := swar3 c hc
  obtain ⟨d1, d2, d3, d4⟩ := swar3 d hd
  dsimp only [JI_bitCount, lt]
  generalize h1 : x - (((x.toUInt32 >>> ((1 : Int32).toUInt32 &&& Int32.toUInt32 31)).toInt32) &&& (1431655765 : Int32)) = y1
  generalize h2 : (y1 &&& (858993459 : Int32)) + (((y1.toUInt32 >>> ((2 : Int32).toUInt32 &&& Int32.toUInt32 31)).toInt32) &&& (858993459 : Int32)) = y2
  generalize h3 : (y2 + ((y2.toUInt32 >>> ((4 : Int32).toUInt32 &&& Int32.toUInt32 31)).toInt32)) &&& (252645135 : Int32) = y3
  generalize h4 : y3 + ((y3.toUInt32 >>> ((8 : Int32).toUInt32 &&& Int32.toUInt32 31)).toInt32) = y4
  generalize h5 : y4 + ((y4.toUInt32 >>> ((16 : Int32).toUInt32 &&& Int32.toUInt32 31)).toInt32) = y5
  have n1 : nN y1 = sw1 a + 256 * (sw1 b + 256 * (sw1 c + 256 * sw1 d)) := by
    have hm : nN (((x.toUInt32 >>> ((1 : Int32).toUInt32 &&& Int32.toUInt32 31)).toInt32) &&& (1431655765 : Int32)) = ((a / 2) &&& 85) + 256 * (((b / 2) &&& 85) + 256 * (((c / 2) &&& 85) + 256 * ((d / 2) &&& 85))) := by
      rw [nN_and, ush_nN x 1 1 (by decide +kernel), hX, show nN (1431655765 : Int32) = 85 + 256 * (85 + 256 * (85 + 256 * 85)) from rfl]
      rw [show (a + 256 * (b + 256 * (c + 256 * d))) / 2 ^ 1 = (a / 2 + 128 * (b % 2)) + 256 * ((b / 2 + 128 * (c % 2)) + 256 * ((c / 2 + 128 * (d % 2)) + 256 * (d / 2))) by omega]
      rw [and8 (by omega) (by omega), and8 (by omega) (by omega), and8 (by omega) (by omega), swar1 a ha _ (by omega), swar1 b hb _ (by omega), swar1 c hc _ (by omega)]
    have q1 := swar1b a ha
    have q2 := swar1b b hb
    have q3 := swar1b c hc
    have q4 := swar1b d hd
    rw [← h1, nN_sub (by rw [hm, hX]; omega), hm, hX]
    unfold sw1
    omega
  have n2 : nN y2 = sw2 a + 256 * (sw2 b + 256 * (sw2 c + 256 * sw2 d)) := by
    have hm1 : nN (y1 &&& (858993459 : Int32)) = (sw1 a &&& 51) + 256 * ((sw1 b &&& 51) + 256 * ((sw1 c &&& 51) + 256 * (sw1 d &&& 51))) := by
      rw [nN_and, n1, show nN (858993459 : Int32) = 51 + 256 * (51 + 256 * (51 + 256 * 51)) from rfl, and8 a1 (by omega), and8 b1 (by omega), and8 c1 (by omega)]
    have hm2 : nN (((y1.toUInt32 >>> ((2 : Int32).toUInt32 &&& Int32.toUInt32 31)).toInt32) &&& (858993459 : Int32)) = ((sw1 a / 4) &&& 51) + 256 * (((sw1 b / 4) &&& 51) + 256 * (((sw1 c / 4) &&& 51) + 256 * ((sw1 d / 4) &&& 51))) := by
      rw [nN_and, ush_nN y1 2 2 (by decide +kernel), n1, show nN (858993459 : Int32) = 51 + 256 * (51 + 256 * (51 + 256 * 51)) from rfl]
      rw [show (sw1 a + 256 * (sw1 b + 256 * (sw1 c + 256 * sw1 d))) / 2 ^ 2 = (sw1 a / 4 + 64 * (sw1 b % 4)) + 256 * ((sw1 b / 4 + 64 * (sw1 c % 4)) + 256 * ((sw1 c / 4 + 64 * (sw1 d % 4)) + 256 * (sw1 d / 4))) by omega]
      rw [and8 (by omega) (by omega), and8 (by omega) (by omega), and8 (by omega) (by omega), swar2 _ a1 _ (by omega), swar2 _ b1 _ (by omega), swar2 _ c1 _ (by omega)]
    rw [← h2, nN_add, hm1, hm2]
    unfold sw2 at a2 b2 c2 d2 ⊢
    omega
  have n3 : nN y3 = pop8 a + 256 * (pop8 b + 256 * (pop8 c + 256 * pop8 d)) := by
    have ma := sw2_mod a ha
    have mb := sw2_mod b hb
    have mc := sw2_mod c hc
    have md := sw2_mod d hd
    have hs : nN (y2 + ((y2.toUInt32 >>> ((4 : Int32).toUInt32 &&& Int32.toUInt32 31)).toInt32)) = (sw2 a + sw2 a / 16 + 16 * (sw2 b % 16)) + 256 * ((sw2 b + sw2 b / 16 + 16 * (sw2 c % 16)) + 256 * ((sw2 c + sw2 c / 16 + 16 * (sw2 d % 16)) + 256 * (sw2 d + sw2 d / 16 + 16 * 0))) := by
      rw [nN_add, ush_nN y2 4 4 (by decide +kernel), n2]
      omega
    rw [← h3, nN_and, hs, show nN (252645135 : Int32) = 15 + 256 * (15 + 256 * (15 + 256 * 15)) from rfl]
    rw [and8 (by omega) (by omega), and8 (by omega) (by omega), and8 (by omega) (by omega), a4 _ mb.2 mb.1, b4 _ mc.2 mc.1, c4 _ md.2 md.1, d4 0 (by omega) (by omega)]
  have n4 : nN y4 = (pop8 a + pop8 b) + 256 * ((pop8 b + pop8 c) + 256 * ((pop8 c + pop8 d) + 256 * pop8 d)) := by
    rw [← h4, nN_add, ush_nN y3 8 8 (by decide +kernel), n3]
    omega
  have n5 : ∃ z, nN y5 = (pop8 a + pop8 b + pop8 c + pop8 d) + 256 * z := by
    refine ⟨(pop8 b + pop8 c + pop8 d) + 256 * ((pop8 c + pop8 d) + 256 * pop8 d), ?_⟩
    rw [← h5, nN_add, ush_nN y4 16 16 (by decide +kernel), n4]
    exact swar5 _ _ _ _ (by omega) (by omega) (by omega) (by omega)
  obtain ⟨z, n5⟩ := n5
  refine congrArg some (nN_inj ?_)
  rw [nN_and, n5, show nN (63 : Int32) = 2 ^ 6 - 1 from rfl, Nat.and_two_pow_sub_one_eq_mod, cnt_bytes ha hb hc hd hX, nN_nI (by omega)]
  omega
theorem cnt_le (x : Int32) : cnt x ≤ 32 := fb_ct_le _ _
