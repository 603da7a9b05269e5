/-! The reference: what is small -/
theorem r_in (a b c : Int64) {σ : qw_M} : qw_Mt qw_tw wM my_X12_in [.long a, .long b, .long c] σ (fun r σ' => σ' = σ ∧ r = some (.int (nI (decide (b.toInt ≤ a.toInt ∧ a.toInt ≤ c.toInt)).toNat))) := by
  refine mt_X12_in rfl (ev_X12_in [] 100 ?_)
  refine vb (fun q => ?_) (fun q => ?_)
  · have q := Int64.lt_iff_toInt_lt.mp ((lg_cmp_lt a b).mp q)
    rw [decide_eq_false (by omega)]
    exact ⟨Or.inl rfl, rfl, rfl⟩
  · have q : ¬ a.toInt < b.toInt := fun z => q ((lg_cmp_lt a b).mpr (Int64.lt_iff_toInt_lt.mpr z))
    refine vb (fun q2 => ?_) (fun q2 => ?_)
    · have q2 := Int64.lt_iff_toInt_lt.mp ((lg_cmp_gt a c).mp q2)
      rw [decide_eq_false (by omega)]
      exact ⟨Or.inl rfl, rfl, rfl⟩
    · have q2 : ¬ c.toInt < a.toInt := fun z => q2 ((lg_cmp_gt a c).mpr (Int64.lt_iff_toInt_lt.mpr z))
      rw [decide_eq_true (by omega)]
      exact ⟨Or.inr rfl, rfl, rfl⟩
theorem nn_dec {x : Int32} {n : Nat} (hn : n < 2 ^ 31) : (nn x n).isSome = decide (0 ≤ x.toInt ∧ x.toInt ≤ (n : Int) - 1) := by
  cases h : nn x n with
  | some j =>
    obtain ⟨h1, rfl⟩ := nn_some hn h
    rw [nI_toInt (by omega)]
    exact (decide_eq_true (by omega)).symm
  | none =>
    refine (decide_eq_false (fun q => ?_)).symm
    have e : x = nI x.toInt.toNat := Int32.toInt_inj.mp (by rw [nI_toInt (by omega)]; omega)
    exact nn_none hn h x.toInt.toNat (by omega) e
theorem r_in0 (x : Int32) {n : Nat} (hn : n < 2 ^ 31) {b c : Int64} (hb : b.toInt = 0) (hc : c.toInt = (n : Int) - 1) {σ : qw_M} : qw_Mt qw_tw wM my_X12_in [.long x.toInt64, .long b, .long c] σ (fun r σ' => σ' = σ ∧ r = some (.int (nI (nn x n).isSome.toNat))) := by
  refine mt_mono (r_in _ b c) (fun r σ' ⟨h1, h2⟩ => ⟨h1, ?_⟩)
  rw [h2, nn_dec hn, hb, hc, Int32.toInt_toInt64]
theorem r_isTwo (x : Int32) {σ : qw_M} : qw_Mt qw_tw wM my_X12_isTwo [.int x] σ (fun r σ' => σ' = σ ∧ r = some (.int (nI (nn x 2).isSome.toNat))) := by
  refine mt_X12_isTwo rfl (ev_X12_isTwo [] 100 ?_)
  refine ⟨trivial, _, r_in0 x (n := 2) (by decide) (by decide) (by decide), fun z σ1 h01 ⟨k1, k2⟩ => ?_⟩
  exact ⟨h01, k1, k2⟩
theorem r_isSheet (x : Int32) {σ : qw_M} : qw_Mt qw_tw wM my_X12_isSheet [.int x] σ (fun r σ' => σ' = σ ∧ r = some (.int (nI (nn x 4).isSome.toNat))) := by
  refine mt_X12_isSheet rfl (ev_X12_isSheet [] 100 ?_)
  refine ⟨trivial, _, r_in0 x (n := 4) (by decide) (by decide) (by decide), fun z σ1 h01 ⟨k1, k2⟩ => ?_⟩
  exact ⟨h01, k1, k2⟩
theorem r_isText (x : Int32) {σ : qw_M} : qw_Mt qw_tw wM my_X12_isText [.int x] σ (fun r σ' => σ' = σ ∧ r = some (.int (nI (nn x 3).isSome.toNat))) := by
  refine mt_X12_isText rfl (ev_X12_isText [] 100 ?_)
  refine ⟨trivial, _, r_in0 x (n := 3) (by decide) (by decide) (by decide), fun z σ1 h01 ⟨k1, k2⟩ => ?_⟩
  exact ⟨h01, k1, k2⟩
theorem r_isStep (x : Int32) {σ : qw_M} : qw_Mt qw_tw wM my_X12_isStep [.int x] σ (fun r σ' => σ' = σ ∧ r = some (.int (nI (nn x 20).isSome.toNat))) := by
  refine mt_X12_isStep rfl (ev_X12_isStep [] 100 ?_)
  refine ⟨trivial, _, r_in0 x (n := 20) (by decide) (by decide) (by decide), fun z σ1 h01 ⟨k1, k2⟩ => ?_⟩
  exact ⟨h01, k1, k2⟩
theorem r_isCell (x : Int32) {σ : qw_M} : qw_Mt qw_tw wM my_X12_isCell [.int x] σ (fun r σ' => σ' = σ ∧ r = some (.int (nI (nn x 32).isSome.toNat))) := by
  refine mt_X12_isCell rfl (ev_X12_isCell [] 100 ?_)
  refine ⟨trivial, _, r_in0 x (n := 32) (by decide) (by decide) (by decide), fun z σ1 h01 ⟨k1, k2⟩ => ?_⟩
  exact ⟨h01, k1, k2⟩
theorem r_isIn (x : Int32) {k : Nat} (hk : k < 32) {σ : qw_M} : qw_Mt qw_tw wM my_X12_isIn [.int x, .int (nI k)] σ (fun r σ' => σ' = σ ∧ r = some (.int (nI (bt x k).toNat))) := by
  refine mt_X12_isIn rfl (ev_X12_isIn [] 100 ?_)
  have es : (x >>> (nI k &&& 31)) &&& nI 1 = nI (bt x k).toNat := bt_s hk
  cases hb : bt x k with
  | true =>
    refine vnf (by rw [es, hb]; rfl) ?_
    exact ⟨Or.inr rfl, rfl, rfl⟩
  | false =>
    refine vnt (by rw [es, hb]; decide) ?_
    exact ⟨Or.inl rfl, rfl, rfl⟩
theorem r_lesser {a b : Nat} (ha : a < 2 ^ 31) (hb : b < 2 ^ 31) {σ : qw_M} : qw_Mt qw_tw wM my_X12_lesser [.int (nI a), .int (nI b)] σ (fun r σ' => σ' = σ ∧ r = some (.int (nI (if a < b then a else b)))) := by
  refine mt_X12_lesser rfl (ev_X12_lesser [] 100 ?_)
  by_cases q : a < b
  · refine vf (nnle b a q hb) ?_
    rw [if_pos q]
    exact ⟨rfl, rfl⟩
  · refine vt (nle b a (by omega) ha) ?_
    rw [if_neg q]
    exact ⟨rfl, rfl⟩
theorem r_greaterI (x y : Int32) {σ : qw_M} : qw_Mt qw_tw wM my_X12_greater [.int x, .int y] σ (fun r σ' => σ' = σ ∧ r = some (.int (if y < x then x else y))) := by
  refine mt_X12_greater rfl (ev_X12_greater [] 100 ?_)
  by_cases q : y < x
  · refine vf (Int32.not_le.mpr q) ?_
    rw [if_pos q]
    exact ⟨rfl, rfl⟩
  · refine vt (Int32.not_lt.mp q) ?_
    rw [if_neg q]
    exact ⟨rfl, rfl⟩
theorem r_greater {a b : Nat} (ha : a < 2 ^ 31) (hb : b < 2 ^ 31) {σ : qw_M} : qw_Mt qw_tw wM my_X12_greater [.int (nI a), .int (nI b)] σ (fun r σ' => σ' = σ ∧ r = some (.int (nI (if b < a then a else b)))) := by
  refine mt_mono (r_greaterI (nI a) (nI b)) (fun r σ' ⟨h1, h2⟩ => ⟨h1, ?_⟩)
  rw [h2]
  by_cases q : b < a
  · rw [if_pos q, if_pos (nlt b a q ha)]
  · rw [if_neg q, if_neg (nnlt b a (by omega) hb)]
theorem r_cut {f : Nat} (hf : f < 3) (v : Int32) {σ : qw_M} : qw_Mt qw_tw wM my_X12_cut [.int (nI f), .int v] σ (fun r σ' => σ' = σ ∧ r = some (.int (cutI f v))) := by
  refine mt_X12_cut rfl (ev_X12_cut [] 100 ?_)
  unfold cutI
  by_cases f0 : f = 0
  · refine vnf (by rw [f0]; rfl) ?_
    rw [if_pos f0]
    exact ⟨rfl, rfl⟩
  · refine vnt (nI_ne0 (n := f) (by omega) (by omega)) ?_
    rw [if_neg f0]
    by_cases f1 : f = 1
    · refine vnf (by rw [f1]) ?_
      rw [if_pos f1]
      exact ⟨rfl, rfl⟩
    · refine vnt (nne f 1 f1 (by omega) (by omega)) ?_
      rw [if_neg f1]
      exact ⟨rfl, rfl⟩
theorem r_finds {d : Nat} {σ : qw_M} : qw_Mt qw_tw wM my_X12_finds [.ref 0, .int (nI d)] σ (fun r σ' => σ' = qw_pi σ 0 4 (nI d) ∧ r = some (.int (fnd d))) := by
  refine mt_X12_finds rfl (ev_X12_finds [] 100 ?_)
  exact ⟨rfl, rfl⟩
abbrev wrong : Int32 := Int32.ofInt (Int.negSucc 8)
theorem r_wayOf {b : Nat} (hb : b < 256) {σ : qw_M} : qw_Mt qw_tw wM my_X12_wayOf [.int (nI b)] σ (fun r σ' => σ' = σ ∧ r = some (.int (match way b with | some w => nI w | none => wrong))) := by
  refine mt_X12_wayOf rfl (ev_X12_wayOf [] 100 ?_)
  unfold way
  by_cases c1 : b = 108
  · refine vnf (by rw [c1]) ?_
    rw [if_pos c1]
    exact ⟨rfl, rfl⟩
  rw [if_neg c1]
  refine vnt (nne b 108 c1 (by omega) (by omega)) ?_
  by_cases c2 : b = 114
  · refine vnf (by rw [c2]) ?_
    rw [if_pos c2]
    exact ⟨rfl, rfl⟩
  rw [if_neg c2]
  refine vnt (nne b 114 c2 (by omega) (by omega)) ?_
  by_cases c3 : b = 102
  · refine vnf (by rw [c3]) ?_
    rw [if_pos c3]
    exact ⟨rfl, rfl⟩
  rw [if_neg c3]
  refine vnt (nne b 102 c3 (by omega) (by omega)) ?_
  by_cases c4 : b = 98
  · refine vnf (by rw [c4]) ?_
    rw [if_pos c4]
    exact ⟨rfl, rfl⟩
  rw [if_neg c4]
  refine vnt (nne b 98 c4 (by omega) (by omega)) ?_
  exact ⟨rfl, rfl⟩
theorem r_colourOf {b : Nat} (hb : b < 256) {σ : qw_M} : qw_Mt qw_tw wM my_X12_colourOf [.int (nI b)] σ (fun r σ' => σ' = σ ∧ r = some (.int (match kol b with | some w => nI w | none => wrong))) := by
  refine mt_X12_colourOf rfl (ev_X12_colourOf [] 100 ?_)
  unfold kol
  by_cases c1 : b = 107
  · refine vnf (by rw [c1]) ?_
    rw [if_pos c1]
    exact ⟨rfl, rfl⟩
  rw [if_neg c1]
  refine vnt (nne b 107 c1 (by omega) (by omega)) ?_
  by_cases c2 : b = 114
  · refine vnf (by rw [c2]) ?_
    rw [if_pos c2]
    exact ⟨rfl, rfl⟩
  rw [if_neg c2]
  refine vnt (nne b 114 c2 (by omega) (by omega)) ?_
  by_cases c3 : b = 103
  · refine vnf (by rw [c3]) ?_
    rw [if_pos c3]
    exact ⟨rfl, rfl⟩
  rw [if_neg c3]
  refine vnt (nne b 103 c3 (by omega) (by omega)) ?_
  by_cases c4 : b = 98
  · refine vnf (by rw [c4]) ?_
    rw [if_pos c4]
    exact ⟨rfl, rfl⟩
  rw [if_neg c4]
  refine vnt (nne b 98 c4 (by omega) (by omega)) ?_
  exact ⟨rfl, rfl⟩
theorem r_figureOf {b lo hi : Nat} (hb : b < 256) (hlo : lo < 10) (hhi : hi < 10) {σ : qw_M} : qw_Mt qw_tw wM my_X12_figureOf [.int (nI b), .int (nI lo), .int (nI hi)] σ (fun r σ' => σ' = σ ∧ r = some (.int (if 48 + lo ≤ b ∧ b ≤ 48 + hi then nI (b - 48) else wrong))) := by
  refine mt_X12_figureOf rfl (ev_X12_figureOf [] 100 ?_)
  refine ⟨trivial, _, r_in _ _ _, fun z σ1 _ ⟨k1, k2⟩ => ?_⟩
  have k1 := k1.symm
  subst k1
  have e1 : nI 48 + nI lo = nI (48 + lo) := nI_add 48 lo
  have e2 : nI 48 + nI hi = nI (48 + hi) := nI_add 48 hi
  rw [e1, e2, nI_l (by omega), nI_l (by omega), nI_l (by omega), lN_toInt (by omega), lN_toInt (by omega), lN_toInt (by omega)] at k2
  have k2 := Value.int.inj (Option.some.inj k2)
  by_cases q : 48 + lo ≤ b ∧ b ≤ 48 + hi
  · rw [decide_eq_true (by omega)] at k2
    rw [if_pos q]
    refine vf (by rw [k2]; exact n10) ?_
    have e : nI b - nI 48 = nI (b - 48) := pk_sub (by omega)
    exact ⟨rfl, congrArg (fun z => some (Value.int z)) e⟩
  · rw [decide_eq_false (by omega)] at k2
    rw [if_neg q]
    refine vt (by rw [k2]; rfl) ?_
    exact ⟨rfl, rfl⟩
theorem lN_mod {a b : Nat} (ha : a < 2 ^ 63) (h0 : 0 < b) (hb : b < 2 ^ 63) : lN a - lN a / lN b * lN b = lN (a % b) := pk_lRem ha h0 hb
theorem r_part {A B w : Nat} (hA : A < 2 ^ 63) (hB : B < 2 ^ 63) (hB0 : 0 < B) (hw : w < 2) {σ : qw_M} : qw_Mt qw_tw wM my_X12_part [.long (lN A), .long (lN B), .int (nI w)] σ (fun r σ' => σ' = σ ∧ r = some (.long (if w = 0 then lN (A / Nat.gcd A B) else lN (B / Nat.gcd A B)))) := by
  generalize hQ : (fun (r : Option Value) (σ' : qw_M) => σ' = σ ∧ r = some (.long (if w = 0 then lN (A / Nat.gcd A B) else lN (B / Nat.gcd A B)))) = Q
  refine mt_X12_part (Q := Q) rfl ?_
  have loop : ∀ (N a b : Nat) (x y : Int64) (ls : qw_L), b < N → a < 2 ^ 63 → b < 2 ^ 63 → Nat.gcd a b = Nat.gcd A B → x = lN a → y = lN b → (∀ q ∈ [(0, Value.long (lN A)), (2, .long (lN B)), (4, .int (nI w)), (5, .long x), (7, .long y)], q ∈ ls) → E_X12_part Q 6 ls [] σ := by
    intro N
    induction N with
    | zero => intro a b x y ls hb; omega
    | succ N ih =>
      intro a b x y ls hb ha63 hb63 hg hx hy hls
      subst hx
      subst hy
      refine qw_Ev.sub (ev_X12_part [6] 100 ?_) hls
      by_cases b0 : b = 0
      · refine vt ((lg_cmp_eq _ _).mpr (by rw [b0]; rfl)) ?_
        have hga : Nat.gcd A B = a := by rw [← hg, b0, Nat.gcd_zero_right]
        have hgp : 0 < a := by rw [← hga]; exact Nat.gcd_pos_of_pos_right _ hB0
        have na : ¬ lN a = 0 := fun z => by
          have := (pk_lEQ (a := a) (b := 0) ha63 (by omega)).mp z
          omega
        subst hQ
        by_cases w0 : w = 0
        · refine vnf (by rw [w0]; rfl) ?_
          refine And.intro na ?_
          refine ⟨rfl, ?_⟩
          rw [if_pos w0, hga]
          exact congrArg (fun z => some (Value.long z)) (pk_lDiv hA hgp ha63)
        · refine vnt (nI_ne0 (n := w) (by omega) (by omega)) ?_
          refine And.intro na ?_
          refine ⟨rfl, ?_⟩
          rw [if_neg w0, hga]
          exact congrArg (fun z => some (Value.long z)) (pk_lDiv hB hgp ha63)
      · refine vf (fun z => b0 ((pk_lEQ (a := b) (b := 0) hb63 (by omega)).mp ((lg_cmp_eq _ _).mp z))) ?_
        refine And.intro (fun z => b0 ((pk_lEQ (a := b) (b := 0) hb63 (by omega)).mp z)) ?_
        have hlt : a % b < b := Nat.mod_lt _ (by omega)
        refine ih b (a % b) _ _ _ (by omega) hb63 (by omega) ?_ rfl (lN_mod ha63 (by omega) hb63) (sub_pre rfl)
        rw [← hg, Nat.gcd_comm a b, Nat.gcd_rec b a, Nat.gcd_comm]
  refine ev_X12_part [6] 100 ?_
  exact loop (B + 1) A B _ _ _ (by omega) hA hB rfl rfl rfl (sub_pre rfl)
