/-! BITS: the family bt of kit/laws (pasted), and what is added here -/
/-! ===== Int32 by its bits: bt x i ===== -/
def bt (x : Int32) (i : Nat) : Bool := x.toBitVec.getLsbD i
theorem b_ext {x y : Int32} (h : ∀ i, i < 32 → bt x i = bt y i) : x = y := Int32.toBitVec_inj.mp (BitVec.eq_of_getLsbD_eq (fun i hi => h i hi))
theorem b_or (x y : Int32) (i : Nat) : bt (x ||| y) i = (bt x i || bt y i) := by unfold bt; rw [Int32.toBitVec_or, BitVec.getLsbD_or]
theorem b_and (x y : Int32) (i : Nat) : bt (x &&& y) i = (bt x i && bt y i) := by unfold bt; rw [Int32.toBitVec_and, BitVec.getLsbD_and]
theorem b_xor (x y : Int32) (i : Nat) : bt (x ^^^ y) i = (bt x i ^^ bt y i) := by unfold bt; rw [Int32.toBitVec_xor, BitVec.getLsbD_xor]
theorem b_big {x : Int32} {i : Nat} (h : 32 ≤ i) : bt x i = false := BitVec.getLsbD_of_ge _ _ h
theorem b_255 (i : Nat) : bt 255 i = decide (i < 8) := by
  rcases Nat.lt_or_ge i 32 with h | h
  · exact (by decide +kernel : ∀ i, i < 32 → bt 255 i = decide (i < 8)) i h
  · rw [b_big h, decide_eq_false (by omega)]
theorem b_65535 (i : Nat) : bt 65535 i = decide (i < 16) := by
  rcases Nat.lt_or_ge i 32 with h | h
  · exact (by decide +kernel : ∀ i, i < 32 → bt 65535 i = decide (i < 16)) i h
  · rw [b_big h, decide_eq_false (by omega)]
theorem b_m1 : ∀ i, i < 32 → bt (-1) i = true := by decide +kernel
theorem b_0 (i : Nat) : bt 0 i = false := BitVec.getLsbD_zero
theorem s_l : ∀ n, n < 32 → ((nI n &&& 31).toBitVec.smod 32).toNat = n := by decide +kernel
theorem s_u : ∀ n, n < 32 → (((nI n).toUInt32 &&& Int32.toUInt32 31).toBitVec % 32).toNat = n := by decide +kernel
theorem b_shl (n : Nat) (hn : n < 32) (x : Int32) {i : Nat} (hi : i < 32) : bt (x <<< (nI n &&& 31)) i = (decide (n ≤ i) && bt x (i - n)) := by
  unfold bt
  rw [Int32.toBitVec_shiftLeft]
  show (x.toBitVec <<< ((nI n &&& 31).toBitVec.smod 32).toNat).getLsbD i = _
  rw [s_l n hn, BitVec.getLsbD_shiftLeft]
  rcases Nat.lt_or_ge i n with h | h
  · simp [h, Nat.not_le.mpr h]
  · simp [hi, h, Nat.not_lt.mpr h]
theorem b_ushr (n : Nat) (hn : n < 32) (x : Int32) (i : Nat) : bt ((x.toUInt32 >>> ((nI n).toUInt32 &&& Int32.toUInt32 31)).toInt32) i = bt x (n + i) := by
  show (x.toUInt32 >>> ((nI n).toUInt32 &&& Int32.toUInt32 31)).toBitVec.getLsbD i = x.toUInt32.toBitVec.getLsbD (n + i)
  rw [UInt32.toBitVec_shiftRight]
  show (x.toUInt32.toBitVec >>> (((nI n).toUInt32 &&& Int32.toUInt32 31).toBitVec % 32).toNat).getLsbD i = _
  rw [s_u n hn, BitVec.getLsbD_ushiftRight]
theorem b_sshr (n : Nat) (hn : n < 32) (x : Int32) {i : Nat} (hi : i < 32) : bt (x >>> (nI n &&& 31)) i = if n + i < 32 then bt x (n + i) else bt x 31 := by
  unfold bt
  rw [Int32.toBitVec_shiftRight]
  show (x.toBitVec.sshiftRight ((nI n &&& 31).toBitVec.smod 32).toNat).getLsbD i = _
  rw [s_l n hn, BitVec.getLsbD_sshiftRight, BitVec.msb_eq_getLsbD_last]
  simp [hi]
theorem b_shl8 (x : Int32) {i : Nat} (hi : i < 32) : bt (x <<< ((8 : Int32) &&& 31)) i = (decide (8 ≤ i) && bt x (i - 8)) := b_shl 8 (by omega) x hi
theorem b_shl16 (x : Int32) {i : Nat} (hi : i < 32) : bt (x <<< ((16 : Int32) &&& 31)) i = (decide (16 ≤ i) && bt x (i - 16)) := b_shl 16 (by omega) x hi
theorem b_shl24 (x : Int32) {i : Nat} (hi : i < 32) : bt (x <<< ((24 : Int32) &&& 31)) i = (decide (24 ≤ i) && bt x (i - 24)) := b_shl 24 (by omega) x hi
theorem b_sshr8 (x : Int32) {i : Nat} (hi : i < 32) : bt (x >>> ((8 : Int32) &&& 31)) i = if 8 + i < 32 then bt x (8 + i) else bt x 31 := b_sshr 8 (by omega) x hi
/-! ===== nI under and, xor, >>>, one bit, 65535 ===== -/
theorem nx_and (a b : Nat) : nI a &&& nI b = nI (a &&& b) := by
  apply Int32.toBitVec_inj.1
  show BitVec.ofNat 32 a &&& BitVec.ofNat 32 b = BitVec.ofNat 32 (a &&& b)
  apply BitVec.eq_of_getLsbD_eq
  intro i hi
  simp [hi]
theorem nx_xor (a b : Nat) : nI a ^^^ nI b = nI (a ^^^ b) := by
  apply Int32.toBitVec_inj.1
  show BitVec.ofNat 32 a ^^^ BitVec.ofNat 32 b = BitVec.ofNat 32 (a ^^^ b)
  apply BitVec.eq_of_getLsbD_eq
  intro i hi
  simp [hi]

theorem bt_nI {n : Nat} {i : Nat} (hi : i < 32) : bt (nI n) i = n.testBit i := by
  show (BitVec.ofNat 32 n).getLsbD i = _
  rw [BitVec.getLsbD_ofNat]
  simp [hi]
theorem bt_one {i : Nat} (hi : i < 32) : bt (nI 1) i = decide (i = 0) := by
  rw [bt_nI hi]
  cases i with
  | zero => rfl
  | succ i => simp [Nat.testBit_succ]
/-- one bit, by >>> -/
theorem bt_u {x : Int32} {k : Nat} (hk : k < 32) : ((x.toUInt32 >>> ((nI k).toUInt32 &&& Int32.toUInt32 31)).toInt32 &&& nI 1) = nI (bt x k).toNat := by
  apply b_ext
  intro i hi
  rw [b_and, b_ushr k hk, bt_one hi, bt_nI hi]
  cases i with
  | zero =>
    simp
    cases bt x k <;> rfl
  | succ i => cases h : bt x k <;> simp [Nat.testBit_succ]
/-- one bit, by >> -/
theorem bt_s {x : Int32} {k : Nat} (hk : k < 32) : ((x >>> (nI k &&& 31)) &&& nI 1) = nI (bt x k).toNat := by
  apply b_ext
  intro i hi
  rw [b_and, b_sshr k hk _ hi, bt_one hi, bt_nI hi]
  cases i with
  | zero =>
    simp [hk]
    cases bt x k <;> rfl
  | succ i => cases h : bt x k <;> simp [Nat.testBit_succ]
/-- 1 << k -/
theorem bt_shl1 {k i : Nat} (hk : k < 32) (hi : i < 32) : bt (nI 1 <<< (nI k &&& 31)) i = decide (i = k) := by
  rw [b_shl k hk _ hi]
  rcases Nat.lt_trichotomy i k with h | h | h
  · simp [Nat.not_le.mpr h, Nat.ne_of_lt h]
  · subst h
    rw [bt_one (by omega)]
    simp
  · rw [bt_one (by omega)]
    have h1 : ¬ i - k = 0 := by omega
    have h2 : ¬ i = k := by omega
    simp [h1, h2]
/-- how many of the first n are true -/
def cnt (f : Nat → Bool) : Nat → Nat
  | 0 => 0
  | n + 1 => cnt f n + (f n).toNat
theorem cnt_le (f : Nat → Bool) : ∀ n, cnt f n ≤ n
  | 0 => Nat.le_refl 0
  | n + 1 => by
    have h1 := cnt_le f n
    have h2 : (f n).toNat ≤ 1 := by cases f n <;> decide
    show cnt f n + (f n).toNat ≤ n + 1
    omega
theorem cnt_congr {f g : Nat → Bool} : ∀ {n : Nat}, (∀ i, i < n → f i = g i) → cnt f n = cnt g n
  | 0, _ => rfl
  | n + 1, h => by
    show cnt f n + (f n).toNat = cnt g n + (g n).toNat
    rw [cnt_congr (n := n) (fun i hi => h i (by omega)), h n (by omega)]
theorem cnt_add (f : Nat → Bool) (m : Nat) : ∀ n, cnt f (m + n) = cnt f m + cnt (fun i => f (m + i)) n
  | 0 => rfl
  | n + 1 => by
    show cnt f (m + n) + (f (m + n)).toNat = cnt f m + (cnt (fun i => f (m + i)) n + (f (m + n)).toNat)
    rw [cnt_add f m n]
    omega
theorem and_split {k a b : Nat} (q r : Nat) (ha : a < 2 ^ k) (hb : b < 2 ^ k) : (2 ^ k * q + a) &&& (2 ^ k * r + b) = 2 ^ k * (q &&& r) + (a &&& b) := by
  apply Nat.eq_of_testBit_eq
  intro i
  have hab : a &&& b < 2 ^ k := Nat.lt_of_le_of_lt Nat.and_le_left ha
  rw [Nat.testBit_and, Nat.testBit_two_pow_mul_add _ ha, Nat.testBit_two_pow_mul_add _ hb, Nat.testBit_two_pow_mul_add _ hab]
  split <;> rw [Nat.testBit_and]
def p1 (b : Nat) : Nat := b - (b / 2 &&& 85)
def p2 (b : Nat) : Nat := (b &&& 51) + (b / 4 &&& 51)
def p3 (b : Nat) : Nat := (b + b / 16) &&& 15
theorem p_all : ∀ b, b < 256 → (b / 2 &&& 85) ≤ b ∧ p1 b < 256 ∧ p2 (p1 b) ≤ 68 ∧ p2 (p1 b) % 16 ≤ 4 ∧ p3 (p2 (p1 b)) = cnt (fun i => b.testBit i) 8 := by decide +kernel
theorem p_half : ∀ c, c < 2 → ∀ b, b < 256 → ((128 * c + b / 2) &&& 85) = (b / 2 &&& 85) := by decide +kernel
theorem p_quart : ∀ c, c < 4 → ∀ b, b < 256 → ((64 * c + b / 4) &&& 51) = (b / 4 &&& 51) := by decide +kernel
theorem p_nib : ∀ c, c < 5 → ∀ b, b < 69 → ((16 * c + (b + b / 16)) &&& 15) = ((b + b / 16) &&& 15) := by decide +kernel
theorem p_s1 (q b M : Nat) (hb : b < 256) : ((256 * q + b) / 2) &&& (256 * M + 85) = 256 * ((q / 2) &&& M) + (b / 2 &&& 85) := by
  have e : (256 * q + b) / 2 = 2 ^ 8 * (q / 2) + (128 * (q % 2) + b / 2) := by omega
  have h := and_split (k := 8) (a := 128 * (q % 2) + b / 2) (b := 85) (q / 2) M (by omega) (by omega)
  rw [e]
  rw [p_half _ (by omega) b hb] at h
  exact h
theorem p_s2 (q b M : Nat) (hb : b < 256) : ((256 * q + b) / 4) &&& (256 * M + 51) = 256 * ((q / 4) &&& M) + (b / 4 &&& 51) := by
  have e : (256 * q + b) / 4 = 2 ^ 8 * (q / 4) + (64 * (q % 4) + b / 4) := by omega
  have h := and_split (k := 8) (a := 64 * (q % 4) + b / 4) (b := 51) (q / 4) M (by omega) (by omega)
  rw [e]
  rw [p_quart _ (by omega) b hb] at h
  exact h
theorem p_s3 (q b M : Nat) (hb : b < 256) : (256 * q + b) &&& (256 * M + 51) = 256 * (q &&& M) + (b &&& 51) := and_split (k := 8) q M (by omega) (by omega)
theorem p_4a (a b c d : Nat) (ha : a < 256) (hb : b < 256) (hc : c < 256) (hd : d < 256) : ((256 * (256 * (256 * d + c) + b) + a) / 2) &&& 1431655765 = 256 * (256 * (256 * (d / 2 &&& 85) + (c / 2 &&& 85)) + (b / 2 &&& 85)) + (a / 2 &&& 85) := by
  have e : 1431655765 = 256 * 5592405 + 85 := rfl
  have e2 : 5592405 = 256 * 21845 + 85 := rfl
  have e3 : 21845 = 256 * 85 + 85 := rfl
  rw [e, p_s1 _ _ _ ha, e2, p_s1 _ _ _ hb, e3, p_s1 _ _ _ hc]
theorem p_4b (a b c d : Nat) (ha : a < 256) (hb : b < 256) (hc : c < 256) (hd : d < 256) : ((256 * (256 * (256 * d + c) + b) + a) / 4) &&& 858993459 = 256 * (256 * (256 * (d / 4 &&& 51) + (c / 4 &&& 51)) + (b / 4 &&& 51)) + (a / 4 &&& 51) := by
  have e : 858993459 = 256 * 3355443 + 51 := rfl
  have e2 : 3355443 = 256 * 13107 + 51 := rfl
  have e3 : 13107 = 256 * 51 + 51 := rfl
  rw [e, p_s2 _ _ _ ha, e2, p_s2 _ _ _ hb, e3, p_s2 _ _ _ hc]
theorem p_4c (a b c d : Nat) (ha : a < 256) (hb : b < 256) (hc : c < 256) (hd : d < 256) : (256 * (256 * (256 * d + c) + b) + a) &&& 858993459 = 256 * (256 * (256 * (d &&& 51) + (c &&& 51)) + (b &&& 51)) + (a &&& 51) := by
  have e : 858993459 = 256 * 3355443 + 51 := rfl
  have e2 : 3355443 = 256 * 13107 + 51 := rfl
  have e3 : 13107 = 256 * 51 + 51 := rfl
  rw [e, p_s3 _ _ _ ha, e2, p_s3 _ _ _ hb, e3, p_s3 _ _ _ hc]
theorem p_4d (a b c d : Nat) (ha : a ≤ 68) (hb : b ≤ 68) (hc : c ≤ 68) (hd : d ≤ 68) (ha4 : a % 16 ≤ 4) (hb4 : b % 16 ≤ 4) (hc4 : c % 16 ≤ 4) (hd4 : d % 16 ≤ 4) : ((256 * (256 * (256 * d + c) + b) + a) + (256 * (256 * (256 * d + c) + b) + a) / 16) &&& 252645135 = 256 * (256 * (256 * p3 d + p3 c) + p3 b) + p3 a := by
  have e : (256 * (256 * (256 * d + c) + b) + a) + (256 * (256 * (256 * d + c) + b) + a) / 16 = 2 ^ 8 * (2 ^ 8 * (2 ^ 8 * (d + d / 16) + (16 * (d % 16) + (c + c / 16))) + (16 * (c % 16) + (b + b / 16))) + (16 * (b % 16) + (a + a / 16)) := by omega
  have e1 : 252645135 = 2 ^ 8 * (2 ^ 8 * (2 ^ 8 * 15 + 15) + 15) + 15 := rfl
  rw [e, e1, and_split _ _ (by omega) (by omega), and_split _ _ (by omega) (by omega), and_split _ _ (by omega) (by omega), p_nib _ (by omega) a (by omega), p_nib _ (by omega) b (by omega), p_nib _ (by omega) c (by omega)]
  rfl
/-- the number of bits, as the JDK reckons it -/
theorem p_count {n : Nat} (hn : n < 2 ^ 32) : ∃ A B C, n / 2 &&& 1431655765 ≤ n ∧ A = n - (n / 2 &&& 1431655765) ∧ B = (A &&& 858993459) + (A / 4 &&& 858993459) ∧ C = (B + B / 16) &&& 252645135 ∧ A < 2 ^ 32 ∧ B < 2 ^ 31 ∧ C < 2 ^ 31 ∧ ((C + C / 256) + (C + C / 256) / 65536) % 64 = cnt (fun i => n.testBit i) 32 := by
  obtain ⟨a, b, c, d, ha, hb, hc, hd, rfl⟩ : ∃ a b c d, a < 256 ∧ b < 256 ∧ c < 256 ∧ d < 256 ∧ n = 256 * (256 * (256 * d + c) + b) + a := ⟨n % 256, n / 256 % 256, n / 65536 % 256, n / 16777216, by omega, by omega, by omega, by omega, by omega⟩
  obtain ⟨a1, a2, a3, a4, a5⟩ := p_all a ha
  obtain ⟨b1, b2, b3, b4, b5⟩ := p_all b hb
  obtain ⟨c1, c2, c3, c4, c5⟩ := p_all c hc
  obtain ⟨d1, d2, d3, d4, d5⟩ := p_all d hd
  have hA : 256 * (256 * (256 * d + c) + b) + a - ((256 * (256 * (256 * d + c) + b) + a) / 2 &&& 1431655765) = 256 * (256 * (256 * p1 d + p1 c) + p1 b) + p1 a := by
    rw [p_4a a b c d ha hb hc hd]
    unfold p1
    omega
  have hB : ((256 * (256 * (256 * p1 d + p1 c) + p1 b) + p1 a) &&& 858993459) + ((256 * (256 * (256 * p1 d + p1 c) + p1 b) + p1 a) / 4 &&& 858993459) = 256 * (256 * (256 * p2 (p1 d) + p2 (p1 c)) + p2 (p1 b)) + p2 (p1 a) := by
    rw [p_4b _ _ _ _ a2 b2 c2 d2, p_4c _ _ _ _ a2 b2 c2 d2]
    unfold p2
    omega
  have hC := p_4d (p2 (p1 a)) (p2 (p1 b)) (p2 (p1 c)) (p2 (p1 d)) a3 b3 c3 d3 a4 b4 c4 d4
  have k : ∀ m, cnt (fun i => (m : Nat).testBit i) 8 ≤ 8 := fun m => cnt_le _ 8
  refine ⟨_, _, _, ?_, hA.symm, hB.symm, hC.symm, by omega, by omega, ?_, ?_⟩
  · rw [p_4a a b c d ha hb hc hd]
    omega
  · rw [a5, b5, c5, d5]
    have := k a
    have := k b
    have := k c
    have := k d
    omega
  · rw [a5, b5, c5, d5]
    have ka := k a
    have kb := k b
    have kc := k c
    have kd := k d
    have e : cnt (fun i => (256 * (256 * (256 * d + c) + b) + a).testBit i) 32 = cnt (fun i => a.testBit i) 8 + cnt (fun i => b.testBit i) 8 + cnt (fun i => c.testBit i) 8 + cnt (fun i => d.testBit i) 8 := by
      have t : ∀ q r : Nat, r < 256 → ∀ i, (256 * q + r).testBit i = if i < 8 then r.testBit i else q.testBit (i - 8) := fun q r hr i => Nat.testBit_two_pow_mul_add (i := 8) q (by omega) i
      rw [show (32 : Nat) = 8 + (8 + (8 + 8)) from rfl, cnt_add, cnt_add, cnt_add]
      rw [cnt_congr (n := 8) (f := fun i => (256 * (256 * (256 * d + c) + b) + a).testBit i) (g := fun i => a.testBit i) (fun i hi => by rw [t _ _ ha, if_pos hi])]
      rw [cnt_congr (n := 8) (f := fun i => (256 * (256 * (256 * d + c) + b) + a).testBit (8 + i)) (g := fun i => b.testBit i) (fun i hi => by rw [t _ _ ha, if_neg (by omega), t _ _ hb, if_pos (by omega)]; congr 1; omega)]
      rw [cnt_congr (n := 8) (f := fun i => (256 * (256 * (256 * d + c) + b) + a).testBit (8 + (8 + i))) (g := fun i => c.testBit i) (fun i hi => by rw [t _ _ ha, if_neg (by omega), t _ _ hb, if_neg (by omega), t _ _ hc, if_pos (by omega)]; congr 1; omega)]
      rw [cnt_congr (n := 8) (f := fun i => (256 * (256 * (256 * d + c) + b) + a).testBit (8 + (8 + (8 + i)))) (g := fun i => d.testBit i) (fun i hi => by rw [t _ _ ha, if_neg (by omega), t _ _ hb, if_neg (by omega), t _ _ hc, if_neg (by omega)]; congr 1; omega)]
      omega
    rw [e]
    generalize cnt (fun i => a.testBit i) 8 = va at ka ⊢
    generalize cnt (fun i => b.testBit i) 8 = vb at kb ⊢
    generalize cnt (fun i => c.testBit i) 8 = vc at kc ⊢
    generalize cnt (fun i => d.testBit i) 8 = vd at kd ⊢
    have q1 : (256 * (256 * (256 * vd + vc) + vb) + va) / 256 = 256 * (256 * vd + vc) + vb := by omega
    rw [q1]
    have q2 : (256 * (256 * (256 * vd + vc) + vb) + va + (256 * (256 * vd + vc) + vb)) / 65536 = 256 * vd + (vd + vc) := by omega
    rw [q2]
    omega
theorem p_and {a b : Nat} : nI a &&& nI b = nI (a &&& b) := nx_and a b
theorem bt_tb (n : Nat) : ∀ i, i < 32 → bt (nI n) i = n.testBit i := fun i hi => bt_nI hi
theorem m_bitCount (x : Int32) {σ : qw_M} : qw_Mt qw_tw wC my_J6_bitCount [.int x] σ (fun r σ' => σ' = σ ∧ r = some (.int (nI (cnt (bt x) 32)))) := by
  obtain ⟨n, hn, rfl⟩ : ∃ n, n < 2 ^ 32 ∧ x = nI n := ⟨x.toBitVec.toNat, x.toBitVec.isLt, by apply Int32.toBitVec_inj.mp; show x.toBitVec = BitVec.ofNat 32 x.toBitVec.toNat; simp⟩
  obtain ⟨A, B, C, h1, h2, h3, h4, h5, h6, h7, h8⟩ := p_count hn
  refine mt_J6_bitCount rfl (ev_J6_bitCount [] 100 ?_)
  refine ⟨rfl, ?_⟩
  have k1 : nI n - (((nI n).toUInt32 >>> ((nI 1).toUInt32 &&& Int32.toUInt32 31)).toInt32 &&& (1431655765 : Int32)) = nI A := by
    rw [pk_ushrN hn (nI 1) 1 (s_u 1 (by omega)), show (1431655765 : Int32) = nI 1431655765 from rfl, p_and, pk_sub (by simpa using h1), h2]
  have k2 : (nI A &&& (858993459 : Int32)) + (((nI A).toUInt32 >>> ((nI 2).toUInt32 &&& Int32.toUInt32 31)).toInt32 &&& (858993459 : Int32)) = nI B := by
    rw [pk_ushrN h5 (nI 2) 2 (s_u 2 (by omega)), show (858993459 : Int32) = nI 858993459 from rfl, p_and, p_and, nI_add, h3]
  have k3 : (nI B + ((nI B).toUInt32 >>> ((nI 4).toUInt32 &&& Int32.toUInt32 31)).toInt32) &&& (252645135 : Int32) = nI C := by
    rw [pk_ushrN (by omega) (nI 4) 4 (s_u 4 (by omega)), show (252645135 : Int32) = nI 252645135 from rfl, nI_add, p_and, h4]
  have k4 : nI C + ((nI C).toUInt32 >>> ((nI 8).toUInt32 &&& Int32.toUInt32 31)).toInt32 = nI (C + C / 256) := by
    rw [pk_ushrN (by omega) (nI 8) 8 (s_u 8 (by omega)), nI_add]
  have k5 : nI (C + C / 256) + ((nI (C + C / 256)).toUInt32 >>> ((nI 16).toUInt32 &&& Int32.toUInt32 31)).toInt32 = nI (C + C / 256 + (C + C / 256) / 65536) := by
    rw [pk_ushrN (by omega) (nI 16) 16 (s_u 16 (by omega)), nI_add]
  show some (Value.int _) = _
  congr 2
  rw [cnt_congr (bt_tb n), ← h8, ← pk_andN (n := C + C / 256 + (C + C / 256) / 65536) (by omega) (m := nI 63) 6 (by decide), ← k5, ← k4, ← k3, ← k2, ← k1]
theorem m_max (x y : Int32) {σ : qw_M} : qw_Mt qw_tw wC my_J9_max [.int x, .int y] σ (fun r σ' => σ' = σ ∧ r = some (.int (if x < y then y else x))) := by
  refine mt_J9_max rfl (ev_J9_max [] 100 ?_)
  refine vb (fun a => ?_) (fun a => ?_)
  · refine ⟨rfl, ?_⟩
    rw [if_pos a]
  · refine ⟨rfl, ?_⟩
    rw [if_neg a]
theorem m_min (x y : Int32) {σ : qw_M} : qw_Mt qw_tw wC my_J9_min [.int x, .int y] σ (fun r σ' => σ' = σ ∧ r = some (.int (if y < x then y else x))) := by
  refine mt_J9_min rfl (ev_J9_min [] 100 ?_)
  refine vb (fun a => ?_) (fun a => ?_)
  · refine ⟨rfl, ?_⟩
    rw [if_pos a]
  · refine ⟨rfl, ?_⟩
    rw [if_neg a]
theorem bt_neg {x y : Int32} {i : Nat} (hi : i < 32) : bt (x &&& (y ^^^ Int32.ofInt (Int.negSucc 0))) i = (bt x i && !bt y i) := by
  rw [b_and, b_xor]
  have h : bt (Int32.ofInt (Int.negSucc 0)) i = true := b_m1 i hi
  rw [h]
  cases bt x i <;> cases bt y i <;> rfl
