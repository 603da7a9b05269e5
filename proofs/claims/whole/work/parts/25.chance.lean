/-! Chance -/
theorem m_power {b : Nat} (hb : b < 2 ^ 31) {t : Nat} (ht : t < 2 ^ 31) {σ : qw_M} : qw_Mt qw_tw wC my_X0_power [.int (nI b), .int (nI t)] σ (fun r σ' => σ' = σ ∧ r = some (.long (lN (b ^ t)))) := by
  refine mt_X0_power rfl ?_
  have loop : ∀ (k j : Nat) (y : Int32) (p : Int64), j + k = t → y = nI j → p = lN (b ^ j) → E_X0_power (fun r σ' => σ' = σ ∧ r = some (.long (lN (b ^ t)))) 5 [(0, .int (nI b)), (1, .int (nI t)), (2, .long p), (4, .int y)] [] σ := by
    intro k
    induction k with
    | zero =>
      intro j y p hj hy hp
      subst hy
      subst hp
      have : j = t := by omega
      subst this
      refine ev_X0_power [5] 100 ?_
      refine vt (Int32.le_refl _) ?_
      exact ⟨rfl, rfl⟩
    | succ k ih =>
      intro j y p hj hy hp
      subst hy
      subst hp
      refine ev_X0_power [5] 100 ?_
      refine vf (nnle t j (by omega) (by omega)) ?_
      refine ih (j + 1) _ _ (by omega) (nI_add j 1) ?_
      rw [nI_l hb, lN_mul, Nat.pow_succ]
  refine ev_X0_power [5] 100 ?_
  exact loop t 0 _ _ (by omega) rfl (by rw [Nat.pow_zero]; rfl)
/-- a cue moves one of the figures -/
def mvs (T : TT) (C : CC) (s : Nat) : Bool := match C s with
  | some z => decide (z.1 < tF T)
  | none => false
theorem m_looseSteps {σ : qw_M} {T : TT} {C : CC} {P : Nat → Option Nat} {n : Nat} {a : Nat → Nat} {L : Nat} (h : sh σ T C P n a L) {l : Nat} (hl : l < 10) : qw_Mt qw_tw wC my_X0_looseSteps [.ref 38, .int (nI l)] σ (fun r σ' => σ' = σ ∧ ∃ x, r = some (.int x) ∧ ∀ i, i < 32 → bt x i = (decide (i ≤ l) && mvs T C i)) := by
  refine mt_X0_looseSteps rfl ?_
  have loop : ∀ (k j : Nat) (y acc : Int32), j + k = l + 1 → y = nI j → (∀ i, i < 32 → bt acc i = (decide (i < j) && mvs T C i)) → E_X0_looseSteps (fun r σ' => σ' = σ ∧ ∃ x, r = some (.int x) ∧ ∀ i, i < 32 → bt x i = (decide (i ≤ l) && mvs T C i)) 4 [(0, .ref 38), (1, .int (nI l)), (2, .int acc), (3, .int y)] [] σ := by
    intro k
    induction k with
    | zero =>
      intro j y acc hj hy hb
      subst hy
      have : j = l + 1 := by omega
      subst this
      refine ev_X0_looseSteps [4] 100 ?_
      refine vt (nlt l (l + 1) (by omega) (by omega)) ?_
      refine ⟨rfl, acc, rfl, fun i hi => ?_⟩
      rw [hb i hi]
      have : decide (i < l + 1) = decide (i ≤ l) := by simp; omega
      rw [this]
    | succ k ih =>
      intro j y acc hj hy hb
      subst hy
      refine ev_X0_looseSteps [4, 45] 100 ?_
      refine vf (nnlt l j (by omega) (by omega)) ?_
      refine vf (nnle 10 j (by omega) (by omega)) ?_
      refine ⟨trivial, _, m_figureOf (Or.inl rfl) h.2.1 (s := j) (by omega), fun z σ1 ⟨k1, k2⟩ => ?_⟩
      cases k2
      have k1 := k1.symm
      subst k1
      have fin : ∀ acc2 : Int32, (∀ i, i < 32 → bt acc2 i = (decide (i < j + 1) && mvs T C i)) → E_X0_looseSteps (fun r σ' => σ' = σ ∧ ∃ x, r = some (.int x) ∧ ∀ i, i < 32 → bt x i = (decide (i ≤ l) && mvs T C i)) 45 [(0, .ref 38), (1, .int (nI l)), (2, .int acc2), (3, .int (nI j))] [] σ := fun acc2 a3 => by
        refine ev_X0_looseSteps [4] 100 ?_
        exact ih (j + 1) _ _ (by omega) (nI_add j 1) a3
      refine ⟨trivial, _, m_has h.1 _, fun z σ1 _ ⟨k1, k2⟩ => ?_⟩
      have k1 := k1.symm
      subst k1
      rcases k2 with ⟨f, hf, ef, k2⟩ | ⟨hf, k2⟩
      · cases k2
        have hm : mvs T C j = true := by
          unfold mvs
          cases hc : C j with
          | none =>
            rw [cuf_none hc] at ef
            have := h.1.1.1
            exact absurd ef.symm (nI_m1 (by omega))
          | some z =>
            obtain ⟨g, w⟩ := z
            have h8 := h.2.1.1 j g w hc
            have : cuf C j = nI g := by simp only [cuf, hc]
            rw [this] at ef
            have e := nI_i (a := g) (b := f) (by omega) (by have := h.1.1.1; omega) ef
            show decide (g < tF T) = true
            rw [e]
            exact decide_eq_true hf
        refine vf (by decide) ?_
        refine fin _ (fun i hi => ?_)
        rw [b_or, hb i hi, bt_shl1 (by omega) hi]
        by_cases c : i = j
        · subst c; simp [hm]
        · have : decide (i < j + 1) = decide (i < j) := by simp; omega
          rw [this]; simp [c]
      · cases k2
        have hm : mvs T C j = false := by
          unfold mvs
          cases hc : C j with
          | none => rfl
          | some z =>
            obtain ⟨g, w⟩ := z
            have : cuf C j = nI g := by simp only [cuf, hc]
            show decide (g < tF T) = false
            apply decide_eq_false
            intro q
            exact hf g q this
        refine vt rfl ?_
        refine fin _ (fun i hi => ?_)
        rw [hb i hi]
        by_cases c : i = j
        · subst c; simp [hm]
        · have : decide (i < j + 1) = decide (i < j) := by simp; omega
          rw [this]
  refine ev_X0_looseSteps [4] 100 ?_
  exact loop (l + 1) 0 _ _ (by omega) rfl (fun i hi => by simp [b_n0])
/-- shown in a step, some cues left undone -/
def shk (T : TT) (C : CC) (P : Nat → Option Nat) (n : Nat) (a : Nat → Nat) (L s : Nat) (skip : Nat → Bool) : Bool := psh P (lgX T C skip n a L (tdp T) (tC T) s)
theorem m_waysShown {σ : qw_M} {T : TT} {C : CC} {P : Nat → Option Nat} {n : Nat} {a : Nat → Nat} {L : Nat} (h : sh σ T C P n a L) {c s : Nat} (hc : c ≤ 16) (hs : s < 20) (lo sk : Int32) {A B : Nat} (hA : cnt (bt sk) 32 = A) (hB : cnt (fun i => bt lo i && !bt sk i) 32 = B) (hAB : A + B ≤ 10) : qw_Mt qw_tw wC my_X0_waysShown [.ref 38, .int (nI c), .int lo, .int sk, .int (nI s)] σ (fun r σ' => fr scr σ σ' ∧ sh σ' T C P n a L ∧ r = some (.long (lN (if shk T C P n a L s (bt sk) then c ^ A * (16 - c) ^ B else 0)))) := by
  have hw : c ^ A * (16 - c) ^ B ≤ 16 ^ 10 := by
    have h1 : c ^ A ≤ 16 ^ A := Nat.pow_le_pow_left hc A
    have h2 : (16 - c) ^ B ≤ 16 ^ B := Nat.pow_le_pow_left (by omega) B
    have h3 : 16 ^ A * 16 ^ B ≤ 16 ^ 10 := by
      rw [← Nat.pow_add]
      exact Nat.pow_le_pow_right (by omega) hAB
    exact Nat.le_trans (Nat.mul_le_mul h1 h2) h3
  have hA32 : A ≤ 32 := by omega
  generalize hQ : (fun (r : Option Value) (σ' : qw_M) => fr scr σ σ' ∧ sh σ' T C P n a L ∧ r = some (.long (lN (if shk T C P n a L s (bt sk) then c ^ A * (16 - c) ^ B else 0)))) = Q
  refine mt_X0_waysShown (Q := Q) rfl ?_
  refine ev_X0_waysShown [24, 35, 88] 100 ?_
  refine ⟨trivial, _, m_bitCount sk, fun z σ1 ⟨k1, k2⟩ => ?_⟩
  cases k2
  have k1 := k1.symm
  subst k1
  rw [hA]
  refine ⟨trivial, _, m_power (b := c) (by omega) (t := A) (by omega), fun z σ1 ⟨k1, k2⟩ => ?_⟩
  cases k2
  have k1 := k1.symm
  subst k1
  refine ⟨trivial, _, m_bitCount _, fun z σ1 ⟨k1, k2⟩ => ?_⟩
  cases k2
  have k1 := k1.symm
  subst k1
  have e2 : cnt (bt (lo &&& (sk ^^^ Int32.ofInt (Int.negSucc 0)))) 32 = B := by
    rw [← hB]
    exact cnt_congr (fun i hi => bt_neg hi)
  rw [e2]
  have e3 : nI 16 - nI c = nI (16 - c) := pk_sub hc
  rw [e3]
  refine ⟨trivial, _, m_power (b := 16 - c) (by omega) (t := B) (by omega), fun z σ1 ⟨k1, k2⟩ => ?_⟩
  cases k2
  have k1 := k1.symm
  subst k1
  show E_X0_waysShown Q 24 [(0, .ref 38), (1, .int (nI c)), (2, .int lo), (3, .int sk), (4, .int (nI s))] [.long (lN (c ^ A) * lN ((16 - c) ^ B))] σ
  rw [lN_mul]
  generalize hW : c ^ A * (16 - c) ^ B = W at hw hQ
  refine ev_X0_waysShown [35, 88] 100 ?_
  by_cases w0 : W = 0
  · refine vnf ?_ ?_
    · rw [w0]
      decide
    · subst hQ
      refine ⟨fr.rf, h, ?_⟩
      rw [w0, ite_self]
      rfl
  · refine vnt ?_ ?_
    · intro q
      have q := (lg_cmp_eq _ _).mp q
      exact w0 ((pk_lEQ (by omega) (by omega)).mp q)
    · refine ev_X0_waysShown [88] 100 ?_
      refine ⟨trivial, _, m_open h, fun σ1 ⟨f1, h1, l1, g1⟩ => ?_⟩
      refine ⟨trivial, _, m_doCues (x := tdp T) h1.1 g1 h1.2.1 (last := s) hs sk, fun σ2 ⟨f2, g2⟩ => ?_⟩
      have f2' : fr scr σ1 σ2 := scr_mv f2
      have h2 := shfrc h1 f2 (fun k a b c => by simp; omega) (by decide)
      refine ⟨trivial, _, m_isOut h2.2.2.2.1 (s := s) hs, fun z σ2' _ ⟨k1, k2⟩ => ?_⟩
      cases k2
      have k1 := k1.symm
      subst k1
      have l2 := l1.fr f2 (by decide)
      refine ⟨trivial, _, m_shineS h2 g2 l2 (isx a s n) (nI 0), fun σ4 ⟨f4, h4, l4, g4, gl4⟩ => ?_⟩
      rw [nosk] at gl4
      have gl4' : gl σ4 28 (lgX T C (bt sk) n a L (tdp T) (tC T) s) := gl4
      refine ⟨trivial, _, m_isShownNow h4.2.2.1 gl4', fun z σ5 _ ⟨k1, k2⟩ => ?_⟩
      cases k2
      have k1 := k1.symm
      subst k1
      have fA : fr scr σ σ4 := ((f1.tr f2').tr f4)
      have hsk : psh P (lgX T C (bt sk) n a L (tdp T) (tC T) s) = shk T C P n a L s (bt sk) := rfl
      rw [hsk]
      cases hb : shk T C P n a L s (bt sk) with
      | false =>
        refine vt rfl ?_
        refine ev_X0_waysShown [] 100 ?_
        subst hQ
        refine ⟨fA, h4, ?_⟩
        rw [hb]
        rfl
      | true =>
        refine vf (by decide) ?_
        refine ev_X0_waysShown [] 100 ?_
        subst hQ
        refine ⟨fA, h4, ?_⟩
        rw [hb]
        rfl
theorem pl_eq {σ : qw_M} {k j : Nat} {x : Int64} : (qw_pl σ k j x k).2 j = x := by
  unfold qw_pl qw_up vp_updL
  simp
theorem pl_ne {σ : qw_M} {k j q : Nat} {x : Int64} (h : q ≠ j) : (qw_pl σ k j x k).2 q = (σ k).2 q := by
  unfold qw_pl qw_up vp_updL
  simp [h]
theorem gcd_odd {A k : Nat} (h : A % 2 = 1) : Nat.gcd A (2 ^ k) = 1 := by
  have h2 : Nat.gcd A 2 = 1 := by
    rw [Nat.gcd_comm, Nat.gcd_rec, h]
    decide
  exact Nat.Coprime.pow_right k h2
theorem low_fin {A B i : Nat} (h : Nat.gcd A B = 1) : (A * 2 ^ i) / Nat.gcd (A * 2 ^ i) (B * 2 ^ i) = A ∧ (B * 2 ^ i) / Nat.gcd (A * 2 ^ i) (B * 2 ^ i) = B := by
  rw [Nat.gcd_mul_right, h, Nat.one_mul]
  have hp : 0 < 2 ^ i := Nat.pow_pos (by omega)
  exact ⟨Nat.mul_div_cancel _ hp, Nat.mul_div_cancel _ hp⟩
theorem m_lowerTerms {σ : qw_M} {A j : Nat} (hA : A < 2 ^ 63) (hj : j ≤ 40) (h1 : (σ 38).2 2 = lN A) (h2 : (σ 38).2 3 = lN (2 ^ j)) : qw_Mt qw_tw wC my_X0_lowerTerms [.ref 38] σ (fun _ σ' => fr [38] σ σ' ∧ (σ' 38).2 2 = lN (A / Nat.gcd A (2 ^ j)) ∧ (σ' 38).2 3 = lN (2 ^ j / Nat.gcd A (2 ^ j))) := by
  generalize hQ : (fun (_ : Option Value) (σ' : qw_M) => fr [38] σ σ' ∧ (σ' 38).2 2 = lN (A / Nat.gcd A (2 ^ j)) ∧ (σ' 38).2 3 = lN (2 ^ j / Nat.gcd A (2 ^ j))) = Q
  refine mt_X0_lowerTerms (Q := Q) rfl ?_
  have loop : ∀ (k i A' : Nat) (y : Int32) (σ' : qw_M), i + k = j → y = nI i → fr [38] σ σ' → (σ' 38).2 2 = lN A' → (σ' 38).2 3 = lN (2 ^ k) → A' * 2 ^ i = A → E_X0_lowerTerms Q 2 [(0, .ref 38), (1, .int y)] [] σ' := by
    intro k
    induction k with
    | zero =>
      intro i A' y σ' hi hy hf g1 g2 hAA
      subst hy
      have : i = j := by omega
      subst this
      have hA' : A' ≤ A := by
        rw [← hAA]
        exact Nat.le_mul_of_pos_right _ (Nat.pow_pos (by omega))
      have fin : Q none σ' := by
        subst hQ
        have := low_fin (A := A') (B := 1) (i := i) (Nat.gcd_one_right A')
        rw [hAA, Nat.one_mul] at this
        rw [this.1, this.2]
        exact ⟨hf, g1, g2⟩
      refine ev_X0_lowerTerms [2] 100 ?_
      refine vf (nnle 64 i (by omega) (by omega)) ?_
      refine And.intro (by decide) ?_
      rw [g1]
      have r1 : lN A' - lN A' / lN 2 * lN 2 = lN (A' % 2) := pk_lRem (by omega) (by omega) (by omega)
      rw [show (2 : Int64) = lN 2 from rfl, r1]
      by_cases c : A' % 2 = 0
      · refine vnf ((lg_cmp_eq _ _).mpr (by rw [c]; rfl)) ?_
        refine And.intro (by decide) ?_
        rw [g2]
        refine vnt (by decide) ?_
        exact fin
      · refine vnt (fun q => c ((pk_lEQ (b := 0) (by omega) (by omega)).mp ((lg_cmp_eq _ _).mp q))) ?_
        exact fin
    | succ k ih =>
      intro i A' y σ' hi hy hf g1 g2 hAA
      subst hy
      have hA' : A' ≤ A := by
        rw [← hAA]
        exact Nat.le_mul_of_pos_right _ (Nat.pow_pos (by omega))
      have hk : 2 ^ (k + 1) ≤ 2 ^ 40 := Nat.pow_le_pow_right (by omega) (by omega)
      refine ev_X0_lowerTerms [2] 100 ?_
      refine vf (nnle 64 i (by omega) (by omega)) ?_
      refine And.intro (by decide) ?_
      rw [g1]
      have r1 : lN A' - lN A' / lN 2 * lN 2 = lN (A' % 2) := pk_lRem (by omega) (by omega) (by omega)
      rw [show (2 : Int64) = lN 2 from rfl, r1]
      by_cases c : A' % 2 = 0
      · refine vnf ((lg_cmp_eq _ _).mpr (by rw [c]; rfl)) ?_
        refine And.intro (by decide) ?_
        rw [g2]
        have r2 : lN (2 ^ (k + 1)) - lN (2 ^ (k + 1)) / lN 2 * lN 2 = lN (2 ^ (k + 1) % 2) := pk_lRem (by omega) (by omega) (by omega)
        refine vnf ((lg_cmp_eq _ _).mpr (r2.trans (by rw [Nat.pow_succ]; simp; rfl))) ?_
        refine And.intro (by decide) ?_
        rw [g1]
        refine And.intro (by decide) ?_
        refine ih (i + 1) (A' / 2) _ _ (by omega) (nI_add i 1) (hf.tr ((fr.pl (by decide)).tr (fr.pl (by decide)))) ?_ ?_ ?_
        · rw [pl_ne (q := 2) (j := 3) (by decide), pl_eq]
          exact pk_lDiv (a := A') (b := 2) (by omega) (by omega) (by omega)
        · rw [pl_eq, pl_ne (q := 3) (j := 2) (by decide), g2]
          refine (pk_lDiv (a := 2 ^ (k + 1)) (b := 2) (by omega) (by omega) (by omega)).trans ?_
          rw [Nat.pow_succ, Nat.mul_div_cancel _ (by omega)]
        · rw [← hAA, Nat.pow_succ, Nat.mul_comm (2 ^ i) 2, ← Nat.mul_assoc]
          congr 1
          omega
      · refine vnt (fun q => c ((pk_lEQ (b := 0) (by omega) (by omega)).mp ((lg_cmp_eq _ _).mp q))) ?_
        subst hQ
        have := low_fin (A := A') (B := 2 ^ (k + 1)) (i := i) (gcd_odd (by omega))
        rw [hAA, ← Nat.pow_add, show k + 1 + i = j by omega] at this
        rw [this.1, this.2]
        exact ⟨hf, g1, g2⟩
  refine ev_X0_lowerTerms [2] 100 ?_
  exact loop j 0 A _ σ (by omega) rfl fr.rf h1 h2 (by simp)
/-- the number with these bits -/
def bN (f : Nat → Bool) : Nat → Nat
  | 0 => 0
  | n + 1 => bN f n ||| (if f n then 2 ^ n else 0)
theorem bN_lt (f : Nat → Bool) : ∀ n, bN f n < 2 ^ n
  | 0 => Nat.one_pos
  | n + 1 => by
    have ih := bN_lt f n
    have h2 : 2 ^ n < 2 ^ (n + 1) := Nat.pow_lt_pow_right (by omega) (by omega)
    refine Nat.or_lt_two_pow (Nat.lt_trans ih h2) ?_
    split
    · exact h2
    · exact Nat.pow_pos (by omega)
theorem bN_tb (f : Nat → Bool) (i : Nat) : ∀ n, (bN f n).testBit i = (decide (i < n) && f i)
  | 0 => by simp [bN]
  | n + 1 => by
    unfold bN
    rw [Nat.testBit_or, bN_tb f i n]
    by_cases c : i = n
    · subst c
      cases hf : f i with
      | true => rw [if_pos rfl, Nat.testBit_two_pow_self]; simp
      | false => simp
    · have : decide (i < n + 1) = decide (i < n) := by simp; omega
      rw [this]
      split
      · rw [Nat.testBit_two_pow_of_ne (fun z => c z.symm)]; simp
      · simp
def sm (f : Nat → Nat) : Nat → Nat
  | 0 => 0
  | n + 1 => sm f n + f n
theorem sm_le {f : Nat → Nat} {b : Nat} (h : ∀ i, f i ≤ b) : ∀ n, sm f n ≤ n * b
  | 0 => by simp [sm]
  | n + 1 => by
    unfold sm
    rw [Nat.succ_mul]
    exact Nat.add_le_add (sm_le h n) (h n)
theorem cnt_disj (f g : Nat → Bool) : ∀ n, cnt f n + cnt (fun i => g i && !f i) n ≤ n
  | 0 => by simp [cnt]
  | n + 1 => by
    have ih := cnt_disj f g n
    show cnt f n + (f n).toNat + (cnt (fun i => g i && !f i) n + (g n && !f n).toNat) ≤ n + 1
    cases f n <;> cases g n <;> simp <;> omega
theorem cnt_hi {f : Nat → Bool} {m : Nat} : ∀ k, (∀ i, m ≤ i → f i = false) → cnt f (m + k) = cnt f m
  | 0, _ => rfl
  | k + 1, h => by
    show cnt f (m + k) + (f (m + k)).toNat = cnt f m
    rw [cnt_hi k h, h (m + k) (by omega)]
    rfl
/-- the cues that matter -/
def clo (T : TT) (C : CC) (l : Nat) : Nat := bN (fun i => decide (i ≤ l) && mvs T C i) 10
theorem clo_lt {T : TT} {C : CC} {l : Nat} : clo T C l < 1024 := bN_lt _ 10
theorem clo_tb {T : TT} {C : CC} {l : Nat} (hl : l < 10) (i : Nat) : (clo T C l).testBit i = (decide (i ≤ l) && mvs T C i) := by
  unfold clo
  rw [bN_tb]
  by_cases c : i ≤ l
  · have : i < 10 := by omega
    simp [c, this]
  · simp [c]
def inb (sk lo : Nat) : Bool := allx (fun i => !sk.testBit i || lo.testBit i) 10
def cwt (T : TT) (C : CC) (P : Nat → Option Nat) (n : Nat) (a : Nat → Nat) (L c l s sk : Nat) : Nat := if inb sk (clo T C l) then (if shk T C P n a L s (fun i => sk.testBit i) then c ^ cnt (fun i => sk.testBit i) 10 * (16 - c) ^ cnt (fun i => (clo T C l).testBit i && !sk.testBit i) 10 else 0) else 0
theorem cwt_le {T : TT} {C : CC} {P : Nat → Option Nat} {n : Nat} {a : Nat → Nat} {L c l s : Nat} (hc : c ≤ 16) (sk : Nat) : cwt T C P n a L c l s sk ≤ 16 ^ 10 := by
  unfold cwt
  split
  · split
    · have h0 := cnt_disj (fun i => sk.testBit i) (fun i => (clo T C l).testBit i) 10
      generalize cnt (fun i => sk.testBit i) 10 = A at h0
      generalize cnt (fun i => (clo T C l).testBit i && !sk.testBit i) 10 = B at h0
      have h1 : c ^ A ≤ 16 ^ A := Nat.pow_le_pow_left hc A
      have h2 : (16 - c) ^ B ≤ 16 ^ B := Nat.pow_le_pow_left (by omega) B
      have h3 : 16 ^ A * 16 ^ B ≤ 16 ^ 10 := by
        rw [← Nat.pow_add]
        exact Nat.pow_le_pow_right (by omega) h0
      exact Nat.le_trans (Nat.mul_le_mul h1 h2) h3
    · exact Nat.zero_le _
  · exact Nat.zero_le _
def cab (T : TT) (C : CC) (P : Nat → Option Nat) (n : Nat) (a : Nat → Nat) (L c l s : Nat) : Nat := sm (cwt T C P n a L c l s) (clo T C l + 1)
def cbe (T : TT) (C : CC) (l : Nat) : Nat := 16 ^ cnt (fun i => (clo T C l).testBit i) 10
theorem tb_hi {x i : Nat} (h : x < 1024) (hi : 10 ≤ i) : x.testBit i = false := Nat.testBit_lt_two_pow (Nat.lt_of_lt_of_le (show x < 2 ^ 10 from h) (Nat.pow_le_pow_right (by omega) hi))
theorem cab_le {T : TT} {C : CC} {P : Nat → Option Nat} {n : Nat} {a : Nat → Nat} {L c l s : Nat} (hc : c ≤ 16) {k : Nat} (hk : k ≤ 1024) : sm (cwt T C P n a L c l s) k ≤ 2 ^ 50 := by
  have h := sm_le (f := cwt T C P n a L c l s) (b := 16 ^ 10) (fun i => cwt_le hc i) k
  have h2 : k * 16 ^ 10 ≤ 1024 * 16 ^ 10 := Nat.mul_le_mul_right _ hk
  have h3 : 1024 * 16 ^ 10 = 2 ^ 50 := by decide
  omega
theorem shk_congr {T : TT} {C : CC} {P : Nat → Option Nat} {n : Nat} {a : Nat → Nat} {L s : Nat} {f g : Nat → Bool} (h : f = g) : shk T C P n a L s f = shk T C P n a L s g := by rw [h]
theorem btfun {x : Nat} (h : x < 1024) : bt (nI x) = fun i => x.testBit i := by
  funext i
  by_cases c : i < 32
  · exact bt_nI c
  · rw [b_big (by omega), tb_hi h (by omega)]
theorem m_reckon {σ : qw_M} {T : TT} {C : CC} {P : Nat → Option Nat} {n : Nat} {a : Nat → Nat} {L : Nat} (h : sh σ T C P n a L) {c last s : Nat} (hc : c ≤ 16) (hla : last < 10) (hs : s < 20) : qw_Mt qw_tw wC my_X0_reckon [.ref 38, .int (nI c), .int (nI last), .int (nI s)] σ (fun _ σ' => fr scA σ σ' ∧ sh σ' T C P n a L ∧ (σ' 38).2 2 = lN (cab T C P n a L c (min last s) s / Nat.gcd (cab T C P n a L c (min last s) s) (cbe T C (min last s))) ∧ (σ' 38).2 3 = lN (cbe T C (min last s) / Nat.gcd (cab T C P n a L c (min last s) s) (cbe T C (min last s)))) := by
  have hl10 : min last s < 10 := by omega
  generalize hl : min last s = l at hl10
  generalize hQ : (fun (_ : Option Value) (σ' : qw_M) => fr scA σ σ' ∧ sh σ' T C P n a L ∧ (σ' 38).2 2 = lN (cab T C P n a L c l s / Nat.gcd (cab T C P n a L c l s) (cbe T C l)) ∧ (σ' 38).2 3 = lN (cbe T C l / Nat.gcd (cab T C P n a L c l s) (cbe T C l))) = Q
  refine mt_X0_reckon (Q := Q) rfl ?_
  refine ev_X0_reckon [33] 100 ?_
  refine ⟨trivial, _, m_min _ _, fun z σ1 ⟨k1, k2⟩ => ?_⟩
  cases k2
  have k1 := k1.symm
  subst k1
  have e1 : (if nI s < nI last then nI s else nI last) = nI l := by
    by_cases q : s < last
    · rw [if_pos (nlt s last q (by omega))]
      exact congrArg nI (by omega)
    · rw [if_neg (nnlt s last (by omega) (by omega))]
      exact congrArg nI (by omega)
  rw [e1]
  refine ⟨trivial, _, m_looseSteps h hl10, fun z σ1 ⟨k1, x, k2, hx⟩ => ?_⟩
  cases k2
  have k1 := k1.symm
  subst k1
  have hlo := clo_lt (T := T) (C := C) (l := l)
  have ex : z = nI (clo T C l) := b_ext (fun i hi => by rw [hx i hi, bt_nI hi, clo_tb hl10])
  rw [ex]
  refine ⟨trivial, _, m_bitCount _, fun z σ1 ⟨k1, k2⟩ => ?_⟩
  cases k2
  have k1 := k1.symm
  subst k1
  have e2 : cnt (bt (nI (clo T C l))) 32 = cnt (fun i => (clo T C l).testBit i) 10 := by
    rw [btfun hlo]
    exact cnt_hi (m := 10) 22 (fun i hi => tb_hi hlo hi)
  have hc10 := cnt_le (fun i => (clo T C l).testBit i) 10
  rw [e2]
  refine ⟨trivial, _, m_power (b := 16) (by omega) (t := cnt (fun i => (clo T C l).testBit i) 10) (by omega), fun z σ1 ⟨k1, k2⟩ => ?_⟩
  cases k2
  have k1 := k1.symm
  subst k1
  have hbe : cbe T C l = 2 ^ (4 * cnt (fun i => (clo T C l).testBit i) 10) := by
    unfold cbe
    rw [Nat.pow_mul]
  have loop : ∀ (k j : Nat) (y : Int32) (σ' : qw_M), j + k = clo T C l + 1 → y = nI j → fr scA σ σ' → sh σ' T C P n a L → (σ' 38).2 2 = lN (sm (cwt T C P n a L c l s) j) → (σ' 38).2 3 = lN (cbe T C l) → E_X0_reckon Q 33 [(0, .ref 38), (1, .int (nI c)), (2, .int (nI last)), (3, .int (nI s)), (4, .int (nI (clo T C l))), (5, .int y)] [] σ' := by
    intro k
    induction k with
    | zero =>
      intro j y σ' hj hy hf h' g1 g2
      subst hy
      have : j = clo T C l + 1 := by omega
      subst this
      refine ev_X0_reckon [33, 83] 100 ?_
      refine vt (nlt (clo T C l) (clo T C l + 1) (by omega) (by omega)) ?_
      refine ev_X0_reckon [] 100 ?_
      refine ⟨trivial, _, m_lowerTerms (σ := σ') (A := cab T C P n a L c l s) (j := 4 * cnt (fun i => (clo T C l).testBit i) 10) (by have := cab_le (T := T) (C := C) (P := P) (n := n) (a := a) (L := L) (c := c) (l := l) (s := s) hc (k := clo T C l + 1) (by omega); unfold cab; omega) (by omega) g1 (by rw [g2, hbe]), fun σ2 ⟨f2, q1, q2⟩ => ?_⟩
      subst hQ
      rw [hbe]
      exact ⟨hf.tr (f2.mo (by unfold scA; decide)), shfrc h' f2 (fun k a b c => by simp; omega) (by decide), q1, q2⟩
    | succ k ih =>
      intro j y σ' hj hy hf h' g1 g2
      subst hy
      have hj1024 : j < 1024 := by omega
      refine ev_X0_reckon [33, 77] 100 ?_
      refine vf (nnlt (clo T C l) j (by omega) (by omega)) ?_
      refine vf (nnle 1024 j (by omega) (by omega)) ?_
      have fin : ∀ σ2, fr scA σ σ2 → sh σ2 T C P n a L → (σ2 38).2 2 = lN (sm (cwt T C P n a L c l s) (j + 1)) → (σ2 38).2 3 = lN (cbe T C l) → E_X0_reckon Q 77 [(0, .ref 38), (1, .int (nI c)), (2, .int (nI last)), (3, .int (nI s)), (4, .int (nI (clo T C l))), (5, .int (nI j))] [] σ2 := fun σ2 a1 a2 a3 a4 => by
        refine ev_X0_reckon [33] 100 ?_
        exact ih (j + 1) _ _ (by omega) (nI_add j 1) a1 a2 a3 a4
      have hz : nI j &&& (nI (clo T C l) ^^^ Int32.ofInt (Int.negSucc 0)) = 0 ↔ inb j (clo T C l) = true := by
        unfold inb
        rw [allx_t]
        constructor
        · intro q i hi
          have e := bt_neg (x := nI j) (y := nI (clo T C l)) (i := i) (by omega)
          rw [q, bt_nI (by omega), bt_nI (by omega)] at e
          have e0 : bt 0 i = false := b_0 i
          rw [e0] at e
          cases h1 : j.testBit i <;> cases h2 : (clo T C l).testBit i <;> simp [h1, h2] at e ⊢
        · intro q
          apply b_ext
          intro i hi
          rw [bt_neg hi, bt_nI hi, bt_nI hi]
          have e0 : bt 0 i = false := b_0 i
          rw [e0]
          by_cases c10 : i < 10
          · have := q i c10
            cases h1 : j.testBit i <;> cases h2 : (clo T C l).testBit i <;> simp [h1, h2] at this ⊢
          · rw [tb_hi hj1024 (by omega)]
            rfl
      cases hin : inb j (clo T C l) with
      | false =>
        refine vnt (fun q => ?_) ?_
        · rw [hz.mp q] at hin
          cases hin
        · refine fin σ' hf h' ?_ g2
          rw [g1]
          show lN _ = lN (sm (cwt T C P n a L c l s) j + cwt T C P n a L c l s j)
          unfold cwt
          rw [hin]
          rfl
      | true =>
        refine vnf (hz.mpr hin) ?_
        have hd := cnt_disj (fun i => j.testBit i) (fun i => (clo T C l).testBit i) 10
        refine ⟨trivial, _, m_waysShown h' hc hs (nI (clo T C l)) (nI j) (A := cnt (fun i => j.testBit i) 10) (B := cnt (fun i => (clo T C l).testBit i && !j.testBit i) 10) ?_ ?_ hd, fun z σ2 ⟨f2, h2, k2⟩ => ?_⟩
        · rw [btfun hj1024]
          exact cnt_hi (m := 10) 22 (fun i hi => tb_hi hj1024 hi)
        · rw [btfun hj1024, btfun hlo]
          exact cnt_hi (m := 10) 22 (fun i hi => by simp [tb_hi hlo hi])
        · cases k2
          show E_X0_reckon Q 77 [(0, .ref 38), (1, .int (nI c)), (2, .int (nI last)), (3, .int (nI s)), (4, .int (nI (clo T C l))), (5, .int (nI j))] [] (qw_pl σ2 38 2 ((σ' 38).2 2 + lN (if shk T C P n a L s (bt (nI j)) = true then c ^ cnt (fun i => j.testBit i) 10 * (16 - c) ^ cnt (fun i => (clo T C l).testBit i && !j.testBit i) 10 else 0)))
          rw [g1, lN_add]
          have hf2 : fr scA σ' (qw_pl σ2 38 2 (lN (sm (cwt T C P n a L c l s) (j + 1)))) := (scr_A f2).tr (fr.pl (by unfold scA; decide))
          have ev : sm (cwt T C P n a L c l s) j + (if shk T C P n a L s (bt (nI j)) then c ^ cnt (fun i => j.testBit i) 10 * (16 - c) ^ cnt (fun i => (clo T C l).testBit i && !j.testBit i) 10 else 0) = sm (cwt T C P n a L c l s) (j + 1) := by
            show _ = sm (cwt T C P n a L c l s) j + cwt T C P n a L c l s j
            unfold cwt
            rw [hin, if_pos rfl, btfun hj1024]
          rw [ev]
          refine fin _ (hf.tr hf2) (shfrc h2 (l := [38]) (fr.pl (by decide)) (fun k a b c => by simp; omega) (by decide)) pl_eq ?_
          rw [pl_ne (q := 3) (j := 2) (by decide), f2 38 (by unfold scr; decide)]
          exact g2
  show E_X0_reckon Q 33 [(0, .ref 38), (1, .int (nI c)), (2, .int (nI last)), (3, .int (nI s)), (4, .int (nI (clo T C l))), (5, .int (nI 0))] [] (qw_pl (qw_pl σ 38 2 (lN 0)) 38 3 (lN (16 ^ cnt (fun i => (clo T C l).testBit i) 10)))
  refine loop (clo T C l + 1) 0 _ _ (by omega) rfl ((fr.pl (k := 38) (by unfold scA; decide)).tr (fr.pl (k := 38) (by unfold scA; decide))) (shfrc h (l := [38]) ((fr.pl (k := 38) (by decide)).tr (fr.pl (k := 38) (by decide))) (fun k a b c => by simp; omega) (by decide)) ?_ pl_eq
  rw [pl_ne (q := 2) (j := 3) (by decide), pl_eq]
  rfl
/-! Cues behind lots -/
theorem m_cclear {σ : qw_M} : qw_Mt qw_tw wC my_X1_clear [.ref 39] σ (fun _ σ' => σ' = qw_pi σ 39 2 (nI 0)) := by
  refine mt_X1_clear rfl (ev_X1_clear [] 100 ?_)
  rfl
theorem m_cadd {σ : qw_M} {m : Nat} (hm : m < 20) (h : (σ 39).1 2 = nI m) (x y : Int32) : qw_Mt qw_tw wC my_X1_add [.ref 39, .int x, .int y] σ (fun _ σ' => σ' = qw_pi (qw_pi (qw_pi σ 40 m x) 41 m y) 39 2 (nI (m + 1))) := by
  refine mt_X1_add rfl (ev_X1_add [] 100 ?_)
  refine vf (by rw [h]; exact nnlt m 0 (by omega) (by omega)) ?_
  refine vf (by rw [h]; exact nnle 20 m hm (by omega)) ?_
  refine And.intro (by rw [h]; exact nin m 20 hm (by omega)) ?_
  refine And.intro (by rw [pi_off (by decide), h]; exact nin m 20 hm (by omega)) ?_
  have hcl : ((σ 39).1 2).toNatClampNeg = m := by rw [h]; exact nI_clamp (by omega)
  have e1 : (qw_pi σ 40 ((σ 39).1 2).toNatClampNeg x) = qw_pi σ 40 m x := by rw [hcl]
  have e2 : ((qw_pi σ 40 m x 39).1 2).toNatClampNeg = m := by rw [pi_off (by decide)]; exact hcl
  have e3 : (qw_pi (qw_pi σ 40 m x) 41 m y 39).1 2 = nI m := by rw [pi_off (by decide), pi_off (by decide)]; exact h
  show qw_pi (qw_pi (qw_pi σ 40 ((σ 39).1 2).toNatClampNeg x) 41 ((qw_pi σ 40 ((σ 39).1 2).toNatClampNeg x 39).1 2).toNatClampNeg y) 39 2 ((qw_pi (qw_pi σ 40 ((σ 39).1 2).toNatClampNeg x) 41 ((qw_pi σ 40 ((σ 39).1 2).toNatClampNeg x 39).1 2).toNatClampNeg y 39).1 2 + nI 1) = _
  rw [e1, e2, e3, nI_add]
/-- the drawn numbers -/
def lcg (x : Int32) : Int32 := (1103515245 : Int32) * x + (12345 : Int32)
def itl (x : Int32) : Nat → Int32
  | 0 => x
  | k + 1 => lcg (itl x k)
def lhi (x : Int32) : Nat := x.toBitVec.toNat / 65536
theorem lhi_lt (x : Int32) : lhi x < 65536 := by
  have := x.toBitVec.isLt
  unfold lhi
  omega
theorem lhi_eq (x : Int32) : (x.toUInt32 >>> ((nI 16).toUInt32 &&& Int32.toUInt32 31)).toInt32 = nI (lhi x) := by
  have e : x = nI x.toBitVec.toNat := by
    apply Int32.toBitVec_inj.mp
    show x.toBitVec = BitVec.ofNat 32 x.toBitVec.toNat
    simp
  have := pk_ushrN (n := x.toBitVec.toNat) x.toBitVec.isLt (nI 16) 16 (s_u 16 (by omega))
  rw [← e] at this
  exact this
def lotC (F : Nat) (x : Int32) (n : Nat) : CC := fun s => if s < n ∧ 0 < F then some (lhi (itl x (2 * s + 1)) % F, lhi (itl x (2 * s + 2)) % 4) else none
theorem m_next (x : Int32) {σ : qw_M} : qw_Mt qw_tw wC my_X0_next [.int x] σ (fun r σ' => σ' = σ ∧ r = some (.int (lcg x))) := by
  refine mt_X0_next rfl (ev_X0_next [] 100 ?_)
  unfold lcg
  exact ⟨rfl, rfl⟩
theorem cu_push {σ : qw_M} {C C2 : CC} {m : Nat} {f w : Nat} (hm : m < 20) (h : cu σ 39 C) (h1 : (σ 39).1 2 = nI m) (h2 : ∀ s, m ≤ s → C s = none) (hC : ∀ s, s < m → C2 s = C s) (hCm : C2 m = some (f, w)) (hC2 : ∀ s, m < s → C2 s = none) (hf : f < 8) (hw : w < 4) : cu (qw_pi (qw_pi (qw_pi σ 40 m (nI f)) 41 m (nI w)) 39 2 (nI (m + 1))) 39 C2 := by
  obtain ⟨a1, k, a2, a3, a4, a5⟩ := h
  have hk : k = m := by
    rw [a3] at h1
    exact nI_i (by omega) (by omega) h1
  subst hk
  refine ⟨fun s g v hs => ?_, k + 1, by omega, pi_eq, fun s hs => hC2 s (by omega), fun s hs => ?_⟩
  · rcases Nat.lt_trichotomy s k with q | q | q
    · rw [hC s q] at hs
      exact a1 s g v hs
    · subst q
      rw [hCm] at hs
      cases hs
      exact ⟨hf, hw⟩
    · rw [hC2 s q] at hs
      cases hs
  · rw [pi_off (c := 39 + 1) (by decide), pi_off (c := 39 + 1) (by decide), pi_off (c := 39 + 2) (by decide)]
    show (qw_pi σ 40 k (nI f) 40).1 s = _ ∧ (qw_pi (qw_pi σ 40 k (nI f)) 41 k (nI w) 41).1 s = _
    rw [pi_at, pi_at, pi_off (c := 41) (k := 40) (by decide)]
    by_cases q : s = k
    · subst q
      rw [if_pos rfl, if_pos rfl]
      simp only [cuf, cuw, hCm, and_self]
    · rw [if_neg q, if_neg q]
      have := a5 s (by omega)
      have e := hC s (by omega)
      simp only [cuf, cuw, e]
      exact this
theorem m_draw {σ : qw_M} {T : TT} (hT : tr σ T) (x : Int32) {n : Nat} (hn : n ≤ 20) : qw_Mt qw_tw wC my_X0_draw [.ref 38, .int x, .int (nI n)] σ (fun _ σ' => fr [39, 40, 41] σ σ' ∧ cu σ' 39 (lotC (tF T) x n)) := by
  generalize hQ : (fun (_ : Option Value) (σ' : qw_M) => fr [39, 40, 41] σ σ' ∧ cu σ' 39 (lotC (tF T) x n)) = Q
  refine mt_X0_draw (Q := Q) rfl ?_
  refine ev_X0_draw [18, 29] 100 ?_
  refine ⟨trivial, _, m_cclear, fun σ1 k1 => ?_⟩
  have hF : (σ1 8).1 5 = nI (tF T) := by rw [k1, pi_off (by decide)]; exact hT.2.1
  have hF8 := hT.1.1
  have f1 : fr [39, 40, 41] σ σ1 := by rw [k1]; exact fr.pi (by decide)
  have hc0 : (σ1 39).1 2 = nI 0 := by rw [k1]; exact pi_eq
  have hcu0 : ∀ C0 : CC, (∀ s, C0 s = none) → cu σ1 39 C0 := fun C0 h0 => ⟨fun s f w e => (by rw [h0 s] at e; cases e), 0, by omega, hc0, fun s _ => h0 s, fun s hs => absurd hs (Nat.not_lt_zero s)⟩
  show E_X0_draw Q 18 [(0, .ref 38), (1, .int x), (2, .int (nI n)), (3, .int ((σ1 8).1 5))] [] σ1
  rw [hF]
  refine ev_X0_draw [29] 100 ?_
  by_cases F0 : tF T = 0
  · refine vf (by rw [F0]; decide) ?_
    subst hQ
    exact ⟨f1, hcu0 _ (fun s => by unfold lotC; rw [if_neg (by omega)])⟩
  · refine vt (nlt 0 (tF T) (by omega) (by omega)) ?_
    have loop : ∀ (k j : Nat) (y l : Int32) (ls : qw_L) (σ' : qw_M), j + k = n → y = nI j → l = itl x (2 * j) → fr [39, 40, 41] σ σ' → (σ' 39).1 2 = nI j → cu σ' 39 (lotC (tF T) x j) → (∀ q ∈ [(0, Value.ref 38), (1, .int x), (2, .int (nI n)), (3, .int (nI (tF T))), (4, .int l), (5, .int y)], q ∈ ls) → E_X0_draw Q 29 ls [] σ' := by
      intro k
      induction k with
      | zero =>
        intro j y l ls σ' hj hy hl hf g1 g2 hls
        subst hy
        subst hl
        have : j = n := by omega
        subst this
        refine qw_Ev.sub (ev_X0_draw [29] 100 ?_) hls
        refine vt (Int32.le_refl _) ?_
        subst hQ
        exact ⟨hf, g2⟩
      | succ k ih =>
        intro j y l ls σ' hj hy hl hf g1 g2 hls
        subst hy
        subst hl
        refine qw_Ev.sub (ev_X0_draw [29] 100 ?_) hls
        refine vf (nnle n j (by omega) (by omega)) ?_
        refine ⟨trivial, _, m_next _, fun z σ2 ⟨k1, k2⟩ => ?_⟩
        have k2 := Value.int.inj (Option.some.inj k2)
        rw [k2]
        clear k2
        have k1 := k1.symm
        subst k1
        refine And.intro (nI_ne0 (n := tF T) (by omega) (by omega)) ?_
        rw [lhi_eq]
        have hh1 := lhi_lt (lcg (itl x (2 * j)))
        have r1 : nI (lhi (lcg (itl x (2 * j)))) - nI (lhi (lcg (itl x (2 * j)))) / nI (tF T) * nI (tF T) = nI (lhi (lcg (itl x (2 * j))) % tF T) := pk_rem (by omega) (by omega) (by omega)
        rw [r1]
        refine ⟨trivial, _, m_next _, fun z σ2 ⟨k1, k2⟩ => ?_⟩
        have k2 := Value.int.inj (Option.some.inj k2)
        rw [k2]
        clear k2
        have k1 := k1.symm
        subst k1
        refine And.intro (by decide) ?_
        rw [lhi_eq]
        have hh2 := lhi_lt (lcg (lcg (itl x (2 * j))))
        have r2 : nI (lhi (lcg (lcg (itl x (2 * j))))) - nI (lhi (lcg (lcg (itl x (2 * j))))) / nI 4 * nI 4 = nI (lhi (lcg (lcg (itl x (2 * j)))) % 4) := pk_rem (by omega) (by omega) (by omega)
        rw [r2]
        have hm1 : lhi (lcg (itl x (2 * j))) % tF T < tF T := Nat.mod_lt _ (by omega)
        refine ⟨trivial, _, m_cadd (m := j) (by omega) g1 _ _, fun σ3 k1 => ?_⟩
        have e1 : ∀ s, s < j → lotC (tF T) x (j + 1) s = lotC (tF T) x j s := fun s hs => by
          unfold lotC
          by_cases q : 0 < tF T
          · rw [if_pos ⟨by omega, q⟩, if_pos ⟨hs, q⟩]
          · omega
        have e2 : lotC (tF T) x (j + 1) j = some (lhi (lcg (itl x (2 * j))) % tF T, lhi (lcg (lcg (itl x (2 * j)))) % 4) := by
          unfold lotC
          rw [if_pos ⟨by omega, by omega⟩]
          rfl
        refine ih (j + 1) _ _ _ _ (by omega) (nI_add j 1) rfl ?_ ?_ ?_ (sub_pre rfl)
        · rw [k1]
          exact hf.tr (((fr.pi (by decide)).tr (fr.pi (by decide))).tr (fr.pi (by decide)))
        · rw [k1]
          exact pi_eq
        · rw [k1]
          exact cu_push (by omega) g2 g1 (fun s hs => by unfold lotC; rw [if_neg (by omega)]) e1 e2 (fun s hs => by unfold lotC; rw [if_neg (by omega)]) (by omega) (Nat.mod_lt _ (by omega))
    refine loop n 0 _ _ _ σ1 (by omega) rfl rfl f1 hc0 (hcu0 _ (fun s => by unfold lotC; rw [if_neg (by omega)])) (sub_pre rfl)
theorem m_playOut {σ : qw_M} {T : TT} {C : CC} {P : Nat → Option Nat} {n : Nat} {a : Nat → Nat} {L : Nat} (h : sh σ T C P n a L) (x : Int32) {m what : Nat} (hm : m ≤ 20) (hw : what < 2) : qw_Mt qw_tw wC my_X0_playOut [.ref 38, .int x, .int (nI m), .int (nI what)] σ (fun r σ' => fr scA σ σ' ∧ sh σ' T C P n a L ∧ r = some (.int (nI (if what = 0 then cnt (fun i => psh P (lgS T (lotC (tF T) x m) n a L i)) 20 else cnt (fun c => lgS T (lotC (tF T) x m) n a L 19 c == 0) 32)))) := by
  generalize hQ : (fun (r : Option Value) (σ' : qw_M) => fr scA σ σ' ∧ sh σ' T C P n a L ∧ r = some (.int (nI (if what = 0 then cnt (fun i => psh P (lgS T (lotC (tF T) x m) n a L i)) 20 else cnt (fun c => lgS T (lotC (tF T) x m) n a L 19 c == 0) 32)))) = Q
  refine mt_X0_playOut (Q := Q) rfl ?_
  refine ev_X0_playOut [44] 100 ?_
  refine ⟨trivial, _, m_draw h.1 x hm, fun σ1 ⟨f1, c1⟩ => ?_⟩
  have h1 := shfrc h f1 (fun k a b c => by simp; omega) (by decide)
  refine ⟨trivial, _, m_shownSteps h1 (Or.inr rfl) c1, fun z σ2 ⟨f2, h2, g2, y, k2, hy⟩ => ?_⟩
  cases k2
  have fA : fr scA σ σ2 := (f1.mo (by unfold scA; decide)).tr (scr_A f2)
  by_cases w0 : what = 0
  · subst w0
    refine vnf rfl ?_
    refine ⟨trivial, _, m_bitCount _, fun z σ3 ⟨k1, k2⟩ => ?_⟩
    cases k2
    have k1 := k1.symm
    subst k1
    refine ev_X0_playOut [] 100 ?_
    subst hQ
    refine ⟨fA, h2, ?_⟩
    rw [if_pos rfl]
    congr 3
    rw [cnt_congr hy]
    have e := cnt_hi (f := fun i => decide (i < 20) && psh P (lgS T (lotC (tF T) x m) n a L i)) (m := 20) 12 (fun i hi => by simp; omega)
    refine e.trans (cnt_congr (fun i hi => ?_))
    rw [decide_eq_true hi]
    rfl
  · have : what = 1 := by omega
    subst this
    refine vnt (by decide) ?_
    refine ⟨trivial, _, m_dark (Or.inr (Or.inl rfl)) g2, fun z σ3 ⟨k1, k2⟩ => ?_⟩
    cases k2
    have k1 := k1.symm
    subst k1
    refine ev_X0_playOut [] 100 ?_
    subst hQ
    refine ⟨fA, h2, ?_⟩
    rw [if_neg (by decide)]
