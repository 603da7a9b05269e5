/-! The reference: stumbles -/
theorem sm_add (f : Nat → Nat) (m : Nat) : ∀ k, sm f (m + k) = sm f m + sm (fun i => f (m + i)) k
  | 0 => rfl
  | k + 1 => by
    show sm f (m + k) + f (m + k) = sm f m + (sm (fun i => f (m + i)) k + f (m + k))
    rw [sm_add f m k, Nat.add_assoc]
theorem sm_congr {f g : Nat → Nat} : ∀ {n : Nat}, (∀ i, i < n → f i = g i) → sm f n = sm g n
  | 0, _ => rfl
  | n + 1, h => by
    show sm f n + f n = sm g n + g n
    rw [sm_congr (fun i hi => h i (by omega)), h n (by omega)]
theorem sm_zero {f : Nat → Nat} : ∀ {n : Nat}, (∀ i, i < n → f i = 0) → sm f n = 0
  | 0, _ => rfl
  | n + 1, h => by
    show sm f n + f n = 0
    rw [sm_zero (fun i hi => h i (by omega)), h n (by omega)]
/-- one bit more -/
def bup (v : Nat → Bool) (n : Nat) : Nat → Bool := fun i => if i = n then true else v i
/-- the sum over all choices of n bits -/
def bsm : Nat → ((Nat → Bool) → Nat) → Nat
  | 0, F => F (fun _ => false)
  | n + 1, F => bsm n F + bsm n (fun v => F (bup v n))
theorem bsm_congr : ∀ {n : Nat} {F G : (Nat → Bool) → Nat}, (∀ v : Nat → Bool, (∀ i, n ≤ i → v i = false) → F v = G v) → bsm n F = bsm n G
  | 0, F, G, h => h _ (fun _ _ => rfl)
  | n + 1, F, G, h => by
    show bsm n F + bsm n (fun v => F (bup v n)) = bsm n G + bsm n (fun v => G (bup v n))
    rw [bsm_congr (n := n) (F := F) (G := G) (fun v hv => h v (fun i hi => hv i (by omega))), bsm_congr (n := n) (F := fun v => F (bup v n)) (G := fun v => G (bup v n)) (fun v hv => h _ (fun i hi => by
      unfold bup
      rw [if_neg (by omega)]
      exact hv i (by omega)))]
theorem bsm_mul (k : Nat) : ∀ {n : Nat} {F : (Nat → Bool) → Nat}, bsm n (fun v => k * F v) = k * bsm n F
  | 0, F => rfl
  | n + 1, F => by
    show bsm n (fun v => k * F v) + bsm n (fun v => k * F (bup v n)) = k * (bsm n F + bsm n (fun v => F (bup v n)))
    rw [bsm_mul k, bsm_mul k (F := fun v => F (bup v n)), Nat.mul_add]
theorem tb_add {n x : Nat} (hx : x < 2 ^ n) : (fun i => (2 ^ n + x).testBit i) = bup (fun i => x.testBit i) n := by
  funext i
  unfold bup
  rcases Nat.lt_trichotomy i n with q | q | q
  · rw [if_neg (by omega)]
    exact Nat.testBit_two_pow_add_gt q x
  · subst q
    rw [if_pos rfl, Nat.testBit_two_pow_add_eq, Nat.testBit_lt_two_pow hx]
    rfl
  · rw [if_neg (by omega)]
    have h2 : 2 ^ n + x < 2 ^ i := by
      have : 2 ^ (n + 1) ≤ 2 ^ i := Nat.pow_le_pow_right (by decide) q
      have e : 2 ^ (n + 1) = 2 ^ n * 2 := Nat.pow_succ 2 n
      omega
    rw [Nat.testBit_lt_two_pow h2]
    exact (Nat.testBit_lt_two_pow (Nat.lt_of_le_of_lt (Nat.le_add_left x (2 ^ n)) h2)).symm
theorem bsm_sm : ∀ (n : Nat) (F : (Nat → Bool) → Nat), sm (fun x => F (fun i => x.testBit i)) (2 ^ n) = bsm n F
  | 0, F => by
    show 0 + F (fun i => Nat.testBit 0 i) = F (fun _ => false)
    rw [Nat.zero_add]
    congr 1
    funext i
    exact Nat.zero_testBit i
  | n + 1, F => by
    rw [Nat.pow_succ, Nat.mul_two, sm_add, bsm_sm n F]
    show _ = bsm n F + bsm n (fun v => F (bup v n))
    rw [← bsm_sm n (fun v => F (bup v n))]
    congr 1
    exact sm_congr (fun x hx => congrArg F (tb_add hx))
/-- a product over the first bits -/
def bpr (w : Nat → Nat) : Nat → Nat
  | 0 => 1
  | n + 1 => bpr w n * w n
theorem bpr_congr {w u : Nat → Nat} : ∀ {n : Nat}, (∀ i, i < n → w i = u i) → bpr w n = bpr u n
  | 0, _ => rfl
  | n + 1, h => by
    show bpr w n * w n = bpr u n * u n
    rw [bpr_congr (fun i hi => h i (by omega)), h n (by omega)]
def wr (c : Nat) (b : Bool) : Nat := if b then c else 16 - c
def wc (c : Nat) (R : Nat → Bool) (i : Nat) (b : Bool) : Nat := if R i then wr c b else if b then 0 else 1
/-- bits that don't matter come to 16 each -/
theorem bsm_main {c : Nat} (hc : c ≤ 16) (R : Nat → Bool) : ∀ (n : Nat) (g : (Nat → Bool) → Nat), (∀ v u : Nat → Bool, (∀ i, R i = true → v i = u i) → g v = g u) → bsm n (fun v => g v * bpr (fun i => wr c (v i)) n) = 16 ^ cnt (fun i => !R i) n * bsm n (fun v => g v * bpr (fun i => wc c R i (v i)) n)
  | 0, g, _ => by
    show g (fun _ => false) * 1 = 16 ^ 0 * (g (fun _ => false) * 1)
    rw [Nat.pow_zero, Nat.one_mul]
  | n + 1, g, hg => by
    have lo : ∀ (w : Nat → Bool → Nat), bsm n (fun v => g v * bpr (fun i => w i (v i)) (n + 1)) = w n false * bsm n (fun v => g v * bpr (fun i => w i (v i)) n) := fun w => by
      rw [← bsm_mul]
      refine bsm_congr (fun v hv => ?_)
      show g v * (bpr (fun i => w i (v i)) n * w n (v n)) = w n false * (g v * bpr (fun i => w i (v i)) n)
      rw [hv n (Nat.le_refl n), ← Nat.mul_assoc, Nat.mul_comm]
    have hi : ∀ (w : Nat → Bool → Nat), bsm n (fun v => g (bup v n) * bpr (fun i => w i (bup v n i)) (n + 1)) = w n true * bsm n (fun v => g (bup v n) * bpr (fun i => w i (v i)) n) := fun w => by
      rw [← bsm_mul]
      refine bsm_congr (fun v hv => ?_)
      show g (bup v n) * (bpr (fun i => w i (bup v n i)) n * w n (bup v n n)) = w n true * (g (bup v n) * bpr (fun i => w i (v i)) n)
      have e1 : bup v n n = true := by unfold bup; exact if_pos rfl
      have e2 : bpr (fun i => w i (bup v n i)) n = bpr (fun i => w i (v i)) n := bpr_congr (fun i hi => by
        have : bup v n i = v i := by unfold bup; exact if_neg (by omega)
        rw [this])
      rw [e1, e2, ← Nat.mul_assoc, Nat.mul_comm]
    have ih1 := bsm_main hc R n g hg
    have ih2 := bsm_main hc R n (fun v => g (bup v n)) (fun v u h => hg _ _ (fun i hi => by
      unfold bup
      by_cases q : i = n
      · rw [if_pos q, if_pos q]
      · rw [if_neg q, if_neg q]
        exact h i hi))
    show bsm n (fun v => g v * bpr (fun i => wr c (v i)) (n + 1)) + bsm n (fun v => g (bup v n) * bpr (fun i => wr c (bup v n i)) (n + 1)) = 16 ^ (cnt (fun i => !R i) n + (!R n).toNat) * (bsm n (fun v => g v * bpr (fun i => wc c R i (v i)) (n + 1)) + bsm n (fun v => g (bup v n) * bpr (fun i => wc c R i (bup v n i)) (n + 1)))
    rw [lo (fun _ => wr c), hi (fun _ => wr c), lo (wc c R), hi (wc c R), ih1, ih2]
    cases hR : R n with
    | true =>
      have w1 : ∀ b, wc c R n b = wr c b := fun b => by unfold wc; rw [hR]; rfl
      rw [w1, w1]
      generalize bsm n (fun v => g v * bpr (fun i => wc c R i (v i)) n) = X
      generalize bsm n (fun v => g (bup v n) * bpr (fun i => wc c R i (v i)) n) = Y
      show wr c false * (16 ^ cnt (fun i => !R i) n * X) + wr c true * (16 ^ cnt (fun i => !R i) n * Y) = 16 ^ (cnt (fun i => !R i) n + 0) * (wr c false * X + wr c true * Y)
      rw [Nat.add_zero]
      generalize 16 ^ cnt (fun i => !R i) n = Z
      rw [Nat.mul_add, Nat.mul_left_comm, Nat.mul_left_comm (wr c true)]
    | false =>
      have hXY : bsm n (fun v => g (bup v n) * bpr (fun i => wc c R i (v i)) n) = bsm n (fun v => g v * bpr (fun i => wc c R i (v i)) n) := bsm_congr (fun v _ => by
        rw [hg (bup v n) v (fun i hi => by
          unfold bup
          by_cases q : i = n
          · rw [q, hR] at hi; cases hi
          · exact if_neg q)])
      rw [hXY]
      have w0 : wc c R n false = 1 := by unfold wc; rw [hR]; rfl
      have w1 : wc c R n true = 0 := by unfold wc; rw [hR]; rfl
      rw [w0, w1]
      generalize bsm n (fun v => g v * bpr (fun i => wc c R i (v i)) n) = X
      show (16 - c) * (16 ^ cnt (fun i => !R i) n * X) + c * (16 ^ cnt (fun i => !R i) n * X) = 16 ^ (cnt (fun i => !R i) n + 1) * (1 * X + 0 * X)
      rw [← Nat.add_mul, Nat.sub_add_cancel hc, Nat.pow_succ, Nat.one_mul, Nat.zero_mul, Nat.add_zero, Nat.mul_comm (16 ^ cnt (fun i => !R i) n) 16, Nat.mul_assoc]
theorem bpr_form {c : Nat} {R x : Nat → Bool} : ∀ n, bpr (fun i => wc c R i (x i)) n = if allx (fun i => !x i || R i) n then c ^ cnt x n * (16 - c) ^ cnt (fun i => R i && !x i) n else 0
  | 0 => rfl
  | n + 1 => by
    show bpr (fun i => wc c R i (x i)) n * wc c R n (x n) = if (allx (fun i => !x i || R i) n && (!x n || R n)) then c ^ (cnt x n + (x n).toNat) * (16 - c) ^ (cnt (fun i => R i && !x i) n + (R n && !x n).toNat) else 0
    rw [bpr_form n]
    cases hx : x n with
    | false =>
      cases hR : R n with
      | false =>
        have w : wc c R n false = 1 := by unfold wc; rw [hR]; rfl
        rw [w, Nat.mul_one]
        simp
      | true =>
        have w : wc c R n false = 16 - c := by unfold wc; rw [hR]; rfl
        rw [w]
        simp only [Bool.not_false, Bool.true_or, Bool.and_true, Bool.toNat_false, Bool.toNat_true, Nat.add_zero, Nat.pow_succ]
        split
        · rw [Nat.mul_assoc]
        · exact Nat.zero_mul _
    | true =>
      cases hR : R n with
      | false =>
        have w : wc c R n true = 0 := by unfold wc; rw [hR]; rfl
        rw [w]
        simp
      | true =>
        have w : wc c R n true = c := by unfold wc; rw [hR]; rfl
        rw [w]
        simp only [Bool.not_true, Bool.false_or, Bool.and_true, Bool.and_false, Bool.toNat_false, Bool.toNat_true, Nat.add_zero, Nat.pow_succ]
        split
        · rw [Nat.mul_right_comm]
        · exact Nat.zero_mul _
theorem bpr_hi {w : Nat → Nat} {m : Nat} : ∀ k, (∀ i, m ≤ i → w i = 1) → bpr w (m + k) = bpr w m
  | 0, _ => rfl
  | k + 1, h => by
    show bpr w (m + k) * w (m + k) = bpr w m
    rw [bpr_hi k h, h (m + k) (by omega), Nat.mul_one]
theorem cnt_not {R : Nat → Bool} : ∀ n, cnt R n + cnt (fun i => !R i) n = n
  | 0 => rfl
  | n + 1 => by
    have ih := cnt_not (R := R) n
    show cnt R n + (R n).toNat + (cnt (fun i => !R i) n + (!R n).toNat) = n + 1
    cases R n <;> simp <;> omega
theorem gos_sk {T : TT} {C : CC} {x : DP} {v u : Nat → Bool} : ∀ {j : Nat}, (∀ i, i < j → mvs T C i = true → v i = u i) → gos (tF T) C v x j = gos (tF T) C u x j
  | 0, _ => rfl
  | j + 1, h => by
    have ih := gos_sk (T := T) (C := C) (x := x) (v := v) (u := u) (j := j) (fun i hi => h i (by omega))
    show (if v j then gos (tF T) C v x j else stp (tF T) (C j) (gos (tF T) C v x j)) = (if u j then gos (tF T) C u x j else stp (tF T) (C j) (gos (tF T) C u x j))
    rw [ih]
    cases hm : mvs T C j with
    | true => rw [h j (by omega) hm]
    | false =>
      have e : stp (tF T) (C j) (gos (tF T) C u x j) = gos (tF T) C u x j := by
        unfold mvs at hm
        unfold stp
        cases hC : C j with
        | none => rfl
        | some z =>
          rw [hC] at hm
          exact if_neg (of_decide_eq_false hm)
      rw [e, ite_self, ite_self]
section
variable {T : TT} {C : CC} {P : Nat → Option Nat} {n : Nat} {a : Nat → Nat} {L : Nat}
theorem shk_sk {s : Nat} {v u : Nat → Bool} (h : ∀ i, i ≤ s → mvs T C i = true → v i = u i) : shk T C P n a L s v = shk T C P n a L s u := by
  have e : lgX T C v n a L (tdp T) (tC T) s = lgX T C u n a L (tdp T) (tC T) s := by
    funext c
    unfold lgX
    rw [gos_sk (v := v) (u := u) (fun i hi => h i (by omega))]
  unfold shk
  rw [e]
/-- the sum that the reference makes -/
def sref (T : TT) (C : CC) (P : Nat → Option Nat) (n : Nat) (a : Nat → Nat) (L c l s x : Nat) : Nat := (shk T C P n a L s (fun i => x.testBit i)).toNat * bpr (fun i => wr c (x.testBit i)) (l + 1)
theorem stum_eq {c l s : Nat} (hc : c ≤ 16) (hl : l < 10) : ∃ m, 0 < m ∧ sm (sref T C P n a L c l s) (2 ^ (l + 1)) = m * cab T C P n a L c (min l s) s ∧ 16 ^ (l + 1) = m * cbe T C (min l s) := by
  have hms : min l s < 10 := by omega
  obtain ⟨R, hR⟩ : ∃ R : Nat → Bool, ∀ i, R i = (decide (i ≤ s) && mvs T C i) := ⟨_, fun _ => rfl⟩
  have hlo : ∀ i, (clo T C (min l s)).testBit i = (decide (i < l + 1) && R i) := fun i => by
    rw [clo_tb hms, hR]
    by_cases q : i < l + 1
    · by_cases q2 : i ≤ s
      · rw [decide_eq_true q, decide_eq_true q2, decide_eq_true (by omega), Bool.true_and, Bool.true_and]
      · rw [decide_eq_false q2, decide_eq_false (by omega), Bool.false_and, Bool.and_false]
    · rw [decide_eq_false q, decide_eq_false (by omega), Bool.false_and, Bool.false_and]
  have hlt : clo T C (min l s) < 2 ^ (l + 1) := Nat.lt_pow_two_of_testBit _ (fun i hi => by rw [hlo, decide_eq_false (by omega), Bool.false_and])
  have h1024 : 2 ^ (l + 1) ≤ 1024 := by
    have : 2 ^ (l + 1) ≤ 2 ^ 10 := Nat.pow_le_pow_right (by decide) (by omega)
    exact this
  refine ⟨16 ^ cnt (fun i => !R i) (l + 1), Nat.pow_pos (by decide), ?_, ?_⟩
  · have e1 : sm (sref T C P n a L c l s) (2 ^ (l + 1)) = bsm (l + 1) (fun v => (shk T C P n a L s v).toNat * bpr (fun i => wr c (v i)) (l + 1)) := bsm_sm (l + 1) (fun v => (shk T C P n a L s v).toNat * bpr (fun i => wr c (v i)) (l + 1))
    rw [e1, bsm_main hc R (l + 1) (fun v => (shk T C P n a L s v).toNat) (fun v u h => by
      rw [shk_sk (v := v) (u := u) (fun i hi hm => h i (by rw [hR, decide_eq_true hi, hm]; rfl))])]
    congr 1
    rw [← bsm_sm (l + 1) (fun v => (shk T C P n a L s v).toNat * bpr (fun i => wc c R i (v i)) (l + 1))]
    have e2 : ∀ x, x < 2 ^ (l + 1) → (shk T C P n a L s (fun i => x.testBit i)).toNat * bpr (fun i => wc c R i (x.testBit i)) (l + 1) = cwt T C P n a L c (min l s) s x := fun x hx => by
      have hxi : ∀ i, l + 1 ≤ i → x.testBit i = false := fun i hi => Nat.testBit_lt_two_pow (Nat.lt_of_lt_of_le hx (Nat.pow_le_pow_right (by decide) hi))
      have e3 : bpr (fun i => wc c R i (x.testBit i)) (l + 1) = bpr (fun i => wc c (fun i => (clo T C (min l s)).testBit i) i (x.testBit i)) 10 := by
        have h10 : l + 1 + (9 - l) = 10 := by omega
        have e5 := bpr_hi (w := fun i => wc c (fun i => (clo T C (min l s)).testBit i) i (x.testBit i)) (m := l + 1) (9 - l) (fun i hi => by
          have hz := hlo i
          rw [decide_eq_false (by omega), Bool.false_and] at hz
          show (if (clo T C (min l s)).testBit i = true then wr c (x.testBit i) else if x.testBit i then 0 else 1) = 1
          rw [hxi i hi, hz]
          rfl)
        rw [h10] at e5
        rw [e5]
        exact bpr_congr (fun i hi => by
          have hz := hlo i
          rw [decide_eq_true hi, Bool.true_and] at hz
          show (if R i = true then wr c (x.testBit i) else if x.testBit i then 0 else 1) = (if (clo T C (min l s)).testBit i = true then wr c (x.testBit i) else if x.testBit i then 0 else 1)
          rw [hz])
      rw [e3, bpr_form]
      unfold cwt inb
      split
      · cases shk T C P n a L s (fun i => x.testBit i) with
        | true => rw [if_pos rfl]; exact Nat.one_mul _
        | false => rw [if_neg (by decide)]; exact Nat.zero_mul _
      · exact Nat.mul_zero _
    rw [sm_congr e2]
    unfold cab
    have h5 : clo T C (min l s) + 1 + (2 ^ (l + 1) - (clo T C (min l s) + 1)) = 2 ^ (l + 1) := by omega
    have e6 := sm_add (cwt T C P n a L c (min l s) s) (clo T C (min l s) + 1) (2 ^ (l + 1) - (clo T C (min l s) + 1))
    rw [h5] at e6
    have ez : sm (fun i => cwt T C P n a L c (min l s) s (clo T C (min l s) + 1 + i)) (2 ^ (l + 1) - (clo T C (min l s) + 1)) = 0 := sm_zero (fun i hi => ?_)
    rw [e6, ez, Nat.add_zero]
    unfold cwt
    refine if_neg (fun h => ?_)
    unfold inb at h
    rw [allx_t] at h
    have := Nat.le_of_testBit (n := clo T C (min l s) + 1 + i) (m := clo T C (min l s)) (fun j hj => by
      by_cases q : j < 10
      · have := h j q
        rw [hj] at this
        exact this
      · rw [tb_hi (by omega) (by omega)] at hj
        cases hj)
    omega
  · have e1 : cnt (fun i => (clo T C (min l s)).testBit i) 10 = cnt R (l + 1) := by
      have h10 : l + 1 + (9 - l) = 10 := by omega
      have e5 := cnt_hi (f := fun i => (clo T C (min l s)).testBit i) (m := l + 1) (9 - l) (fun i hi => by
        show (clo T C (min l s)).testBit i = false
        rw [hlo, decide_eq_false (by omega), Bool.false_and])
      rw [h10] at e5
      rw [e5]
      exact cnt_congr (fun i hi => by rw [hlo, decide_eq_true hi, Bool.true_and])
    unfold cbe
    rw [e1, ← Nat.pow_add]
    congr 1
    have := cnt_not (R := R) (l + 1)
    omega
theorem low_eq {A B m : Nat} (hm : 0 < m) : (m * A) / Nat.gcd (m * A) (m * B) = A / Nat.gcd A B ∧ (m * B) / Nat.gcd (m * A) (m * B) = B / Nat.gcd A B := by
  rw [Nat.gcd_mul_left]
  exact ⟨Nat.mul_div_mul_left _ _ hm, Nat.mul_div_mul_left _ _ hm⟩
theorem wr_le {c : Nat} (hc : c ≤ 16) (b : Bool) : wr c b ≤ 16 := by
  unfold wr
  split <;> omega
theorem bpr_le {w : Nat → Nat} (h : ∀ i, w i ≤ 16) : ∀ n, bpr w n ≤ 16 ^ n
  | 0 => Nat.le_refl 1
  | n + 1 => by
    rw [Nat.pow_succ]
    exact Nat.mul_le_mul (bpr_le h n) (h n)
theorem sref_le {c l s : Nat} (hc : c ≤ 16) (x : Nat) : sref T C P n a L c l s x ≤ 16 ^ (l + 1) := by
  unfold sref
  have := bpr_le (w := fun i => wr c (x.testBit i)) (fun i => wr_le hc _) (l + 1)
  cases shk T C P n a L s (fun i => x.testBit i) with
  | true => rw [show (true).toNat = 1 from rfl, Nat.one_mul]; exact this
  | false => rw [show (false).toNat = 0 from rfl, Nat.zero_mul]; exact Nat.zero_le _
end
theorem sh2 : ∀ l, l < 10 → nI 2 <<< (nI l &&& 31) = nI (2 ^ (l + 1)) := by decide +kernel
theorem sh16 : ∀ l, l < 10 → (Int64.ofNat 1) <<< ((nI 4 * (nI l + nI 1)).toInt64 &&& 63) = lN (16 ^ (l + 1)) := by decide +kernel
theorem r_partE {x y : Int64} {A B w : Nat} (hx : x = lN A) (hy : y = lN B) (hA : A < 2 ^ 63) (hB : B < 2 ^ 63) (hB0 : 0 < B) (hw : w < 2) {σ : qw_M} : qw_Mt qw_tw wM my_X12_part [.long x, .long y, .int (nI w)] σ (fun r σ' => σ' = σ ∧ r = some (.long (if w = 0 then lN (A / Nat.gcd A B) else lN (B / Nat.gcd A B)))) := by
  subst hx hy
  exact r_part hA hB hB0 hw
section
variable {σ σ' : qw_M} {T : TT} {C : CC} {P : Nat → Option Nat} {n : Nat} {a : Nat → Nat} {L : Nat}
theorem r_stumbleOf (h : th σ T C P n a L) {c l s w : Nat} (hc : c ≤ 16) (hl : l < 10) (hs : s < 20) (hw : w < 2) : qw_Mt qw_tw wM my_X12_stumbleOf [.ref 0, .int (nI c), .int (nI l), .int (nI s), .int (nI w)] σ (fun r σ' => frM [13, 14, 15, 16] [] σ σ' ∧ th σ' T C P n a L ∧ r = some (.long (if w = 0 then lN (cab T C P n a L c (min l s) s / Nat.gcd (cab T C P n a L c (min l s) s) (cbe T C (min l s))) else lN (cbe T C (min l s) / Nat.gcd (cab T C P n a L c (min l s) s) (cbe T C (min l s)))))) := by
  obtain ⟨m, hm, hA, hB⟩ := stum_eq (T := T) (C := C) (P := P) (n := n) (a := a) (L := L) (c := c) (l := l) (s := s) hc hl
  have hle := sm_le (f := sref T C P n a L c l s) (b := 16 ^ (l + 1)) (fun x => sref_le hc x) (2 ^ (l + 1))
  have h16 : 16 ^ (l + 1) ≤ 16 ^ 10 := Nat.pow_le_pow_right (by decide) (by omega)
  have h2 : 2 ^ (l + 1) ≤ 2 ^ 10 := Nat.pow_le_pow_right (by decide) (by omega)
  have h3 : 2 ^ (l + 1) * 16 ^ (l + 1) ≤ 2 ^ 10 * 16 ^ 10 := Nat.mul_le_mul h2 h16
  have h4 : (2 : Nat) ^ 10 * 16 ^ 10 < 2 ^ 63 := by decide
  have h5 : (16 : Nat) ^ 10 < 2 ^ 63 := by decide
  have h6 : 0 < 16 ^ (l + 1) := Nat.pow_pos (by decide)
  have h7 : (2 : Nat) ^ 10 = 1024 := by decide
  generalize hQ : (fun (r : Option Value) (σ' : qw_M) => frM [13, 14, 15, 16] [] σ σ' ∧ th σ' T C P n a L ∧ r = some (.long (if w = 0 then lN (cab T C P n a L c (min l s) s / Nat.gcd (cab T C P n a L c (min l s) s) (cbe T C (min l s))) else lN (cbe T C (min l s) / Nat.gcd (cab T C P n a L c (min l s) s) (cbe T C (min l s)))))) = Q
  have s2 := sh2 l hl
  have s16 := sh16 l hl
  refine mt_X12_stumbleOf (Q := Q) rfl ?_
  have loop : ∀ (r x : Nat) (y : Int32) (z : Int64) (ls : qw_L) (σ' : qw_M), x + r = 2 ^ (l + 1) → y = nI x → z = lN (sm (sref T C P n a L c l s) x) → frM [13, 14, 15, 16] [20] σ σ' → (∀ q ∈ [(0, Value.ref 0), (1, .int (nI c)), (2, .int (nI l)), (3, .int (nI s)), (4, .int (nI w)), (5, .long z), (7, .int y)], q ∈ ls) → E_X12_stumbleOf Q 6 ls [] σ' := by
    intro r
    induction r with
    | zero =>
      intro x y z ls σ' hx hy hz hf hls
      subst hy hz
      have : x = 2 ^ (l + 1) := by omega
      subst this
      refine qw_Ev.sub (ev_X12_stumbleOf [] 100 ?_) hls
      refine vt (by rw [s2]; exact Int32.le_refl _) ?_
      have hf2 : frM [13, 14, 15, 16] [20] σ (qw_pi σ' 0 20 (nI 0)) := hf.tr (frM.p0 (by decide))
      have hf3 : frM [13, 14, 15, 16] [] σ (qw_pi σ' 0 20 (nI 0)) := hf2.back (by rw [pi_eq]; exact h.2.2.2.2.2.1.symm)
      refine ⟨trivial, _, r_partE (A := sm (sref T C P n a L c l s) (2 ^ (l + 1))) (B := 16 ^ (l + 1)) rfl s16 (by omega) (by omega) h6 hw, fun y σ2 ⟨k1, k2⟩ => ?_⟩
      cases k2
      have k1 := k1.symm
      subst k1
      subst hQ
      refine ⟨hf3, h.lv hf3, ?_⟩
      obtain ⟨l1, l2⟩ := low_eq (A := cab T C P n a L c (min l s) s) (B := cbe T C (min l s)) hm
      rw [hA, hB, l1, l2]
    | succ r ih =>
      intro x y z ls σ' hx hy hz hf hls
      subst hy hz
      have esm : sm (sref T C P n a L c l s) (x + 1) = sm (sref T C P n a L c l s) x + sref T C P n a L c l s x := rfl
      have hf1 : frM [13, 14, 15, 16] [20] σ (qw_pi σ' 0 20 (nI x)) := hf.tr (frM.p0 (by decide))
      refine qw_Ev.sub (ev_X12_stumbleOf [6, 38] 100 ?_) hls
      refine vf (by rw [s2]; exact nnle (2 ^ (l + 1)) x (by omega) (by omega)) ?_
      have hlv := r_lives (h.1.fr hf1 (by decide) (by decide) (by decide)) (h.2.1.fr hf1 (by decide) (by decide))
      rw [pi_eq, btfun (by omega)] at hlv
      refine ⟨trivial, _, hlv, fun σ2 ⟨k1, k2, k3⟩ => ?_⟩
      have hf2 : frM [13, 14, 15, 16] [20] σ σ2 := hf1.tr (k1.mo (by decide) (by decide))
      refine ⟨trivial, _, r_isShown (go := nI 0) (h.1.fr hf2 (by decide) (by decide) (by decide)) (h.2.2.1.fr hf2 (by decide)) (h.2.2.2.1.fr hf2 (by decide) (by decide)) (h.2.2.2.2.1.fr hf2 (by decide)) (k2 s hs) (by rw [hf2.2 21 (by decide)]; exact h.2.2.2.2.2.2) hs, fun y σ3 h01 ⟨l1, l2⟩ => ?_⟩
      cases l2
      have l1 := l1.symm
      subst l1
      rw [nosk]
      have eb : psh P (lgD T n a L s (gos (tF T) C (fun i => x.testBit i) (tdp T) (s + 1)) (fun _ => false)) = shk T C P n a L s (fun i => x.testBit i) := rfl
      rw [eb]
      cases hb : shk T C P n a L s (fun i => x.testBit i) with
      | false =>
        refine vt rfl ?_
        refine ih (x + 1) _ _ _ _ (by omega) (nI_add x 1) ?_ hf2 (sub_pre rfl)
        have e0 : sref T C P n a L c l s x = 0 := by
          unfold sref
          rw [hb]
          exact Nat.zero_mul _
        rw [esm, e0]
        rfl
      | true =>
        refine vf n10 ?_
        have inner : ∀ (r2 i : Nat) (y : Int32) (v : Int64) (ls : qw_L), i + r2 = l + 1 → y = nI i → v = lN (bpr (fun i => wr c (x.testBit i)) i) → (∀ q ∈ [(0, Value.ref 0), (1, .int (nI c)), (2, .int (nI l)), (3, .int (nI s)), (4, .int (nI w)), (5, .long (lN (sm (sref T C P n a L c l s) x))), (7, .int (nI x)), (8, .long v), (10, .int y)], q ∈ ls) → E_X12_stumbleOf Q 38 ls [] σ2 := by
          intro r2
          induction r2 with
          | zero =>
            intro i y v ls hi hy hv hls
            subst hy hv
            have : i = l + 1 := by omega
            subst this
            refine qw_Ev.sub (ev_X12_stumbleOf [6] 100 ?_) hls
            refine vt (nlt l (l + 1) (by omega) (by omega)) ?_
            refine ih (x + 1) _ _ _ _ (by omega) (nI_add x 1) ?_ hf2 (sub_pre rfl)
            have e0 : sref T C P n a L c l s x = bpr (fun i => wr c (x.testBit i)) (l + 1) := by
              unfold sref
              rw [hb]
              exact Nat.one_mul _
            rw [esm, e0, lN_add]
          | succ r2 ihi =>
            intro i y v ls hi hy hv hls
            subst hy hv
            refine qw_Ev.sub (ev_X12_stumbleOf [38] 100 ?_) hls
            refine vf (nnlt l i (by omega) (by omega)) ?_
            refine ⟨trivial, _, r_isInE (k := i) rfl (by omega), fun y σ1 h01 ⟨k1, k2⟩ => ?_⟩
            cases k2
            have k1 := k1.symm
            subst k1
            have ep : bpr (fun i => wr c (x.testBit i)) (i + 1) = bpr (fun i => wr c (x.testBit i)) i * wr c (x.testBit i) := rfl
            rw [bt_nI (by omega)]
            cases hx2 : x.testBit i with
            | true =>
              refine vf n10 ?_
              refine ihi (i + 1) _ _ _ (by omega) (nI_add i 1) ?_ (sub_pre rfl)
              rw [ep, hx2, nI_l (by omega), lN_mul]
              rfl
            | false =>
              refine vt rfl ?_
              refine ihi (i + 1) _ _ _ (by omega) (nI_add i 1) ?_ (sub_pre rfl)
              rw [ep, hx2, pk_sub (a := 16) (b := c) (by omega), nI_l (n := 16 - c) (by omega), lN_mul]
              rfl
        exact inner (l + 1) 0 _ _ _ (by omega) rfl rfl (sub_pre rfl)
  refine ev_X12_stumbleOf [6] 100 ?_
  exact loop (2 ^ (l + 1)) 0 _ _ _ _ (by omega) rfl rfl frM.rf (sub_pre rfl)
end
