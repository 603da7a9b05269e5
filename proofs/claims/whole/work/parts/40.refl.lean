/-! The reference: where its figures are, what light comes by them -/
def mL (σ : qw_M) (L : Nat) : Prop := L < 32 ∧ (σ 0).1 13 = nI L
def mfk (σ : qw_M) (n : Nat) (a : Nat → Nat) : Prop := n ≤ 8 ∧ (σ 0).1 14 = nI n ∧ ∀ i, i < n → a i < 20 ∧ (σ 12).1 i = nI (a i)
def rc (σ : qw_M) (C : CC) : Prop := (∀ s f w, C s = some (f, w) → f < 8 ∧ w < 4) ∧ ∀ s, s < 20 → (σ 9).1 s = cuf C s ∧ (σ 10).1 s = cuw C s
def rp (σ : qw_M) (P : Nat → Option Nat) : Prop := ∀ c, c < 32 → (σ 11).1 c = obi (P c) ∧ ∀ v, P c = some v → v < 8
abbrev DP : Type := (Nat → Nat) × (Nat → Nat)
def okX (x : DP) (k : Nat) : Prop := 1 ≤ x.1 k ∧ x.1 k ≤ 8 ∧ x.2 k < 32
/-- where they are behind step s, as kept -/
def lvs (σ : qw_M) (F s : Nat) (x : DP) : Prop := ∀ k, k < F → okX x k ∧ (σ 13).1 (8 * s + k) = nI (x.1 k) ∧ (σ 14).1 (8 * s + k) = nI (x.2 k)
/-- where they are now -/
def dp (σ : qw_M) (F : Nat) (x : DP) : Prop := ∀ k, k < F → okX x k ∧ (σ 15).1 k = nI (x.1 k) ∧ (σ 16).1 k = nI (x.2 k)
theorem mL.fr {σ σ' : qw_M} {L : Nat} {l fl : List Nat} (h : mL σ L) (hf : frM l fl σ σ') (h1 : 13 ∉ fl) : mL σ' L := ⟨h.1, by rw [hf.2 13 h1]; exact h.2⟩
theorem mfk.fr {σ σ' : qw_M} {n : Nat} {a : Nat → Nat} {l fl : List Nat} (h : mfk σ n a) (hf : frM l fl σ σ') (h1 : 14 ∉ fl) (h2 : 12 ∉ l) : mfk σ' n a := by
  unfold mfk
  rw [hf.2 14 h1, hf.1 12 h2 (by decide)]
  exact h
theorem rc.fr {σ σ' : qw_M} {C : CC} {l fl : List Nat} (h : rc σ C) (hf : frM l fl σ σ') (h1 : 9 ∉ l) (h2 : 10 ∉ l) : rc σ' C := by
  unfold rc
  rw [hf.1 9 h1 (by decide), hf.1 10 h2 (by decide)]
  exact h
theorem rp.fr {σ σ' : qw_M} {P : Nat → Option Nat} {l fl : List Nat} (h : rp σ P) (hf : frM l fl σ σ') (h1 : 11 ∉ l) : rp σ' P := by
  unfold rp
  rw [hf.1 11 h1 (by decide)]
  exact h
theorem lvs.fr {σ σ' : qw_M} {F s : Nat} {x : DP} {l fl : List Nat} (h : lvs σ F s x) (hf : frM l fl σ σ') (h1 : 13 ∉ l) (h2 : 14 ∉ l) : lvs σ' F s x := by
  unfold lvs
  rw [hf.1 13 h1 (by decide), hf.1 14 h2 (by decide)]
  exact h
theorem dp.fr {σ σ' : qw_M} {F : Nat} {x : DP} {l fl : List Nat} (h : dp σ F x) (hf : frM l fl σ σ') (h1 : 15 ∉ l) (h2 : 16 ∉ l) : dp σ' F x := by
  unfold dp
  rw [hf.1 15 h1 (by decide), hf.1 16 h2 (by decide)]
  exact h
theorem ixm (a b c : Nat) : nI a * nI b + nI c = nI (a * b + c) := by rw [pk_mul, nI_add]
theorem ixc {a b c : Nat} (h : a * b + c < 2 ^ 31) : (nI a * nI b + nI c).toNatClampNeg = a * b + c := by rw [ixm, nI_clamp h]
theorem mxc {a b : Nat} (h : a * b < 2 ^ 31) : (nI a * nI b).toNatClampNeg = a * b := by rw [pk_mul, nI_clamp h]
theorem r_inZ {a b c : Int64} {z : Bool} (h : decide (b.toInt ≤ a.toInt ∧ a.toInt ≤ c.toInt) = z) {σ : qw_M} : qw_Mt qw_tw wM my_X12_in [.long a, .long b, .long c] σ (fun r σ' => σ' = σ ∧ r = some (.int (nI z.toNat))) := by
  subst h
  exact r_in a b c
theorem r_isInE {x y : Int32} {k : Nat} (hy : y = nI k) (hk : k < 32) {σ : qw_M} : qw_Mt qw_tw wM my_X12_isIn [.int x, .int y] σ (fun r σ' => σ' = σ ∧ r = some (.int (nI (bt x k).toNat))) := by
  subst hy
  exact r_isIn x hk
theorem r_isOut {σ : qw_M} {n : Nat} {a : Nat → Nat} (hk : mfk σ n a) {s : Nat} (hs : s < 20) : qw_Mt qw_tw wM my_X12_isOut [.ref 0, .int (nI s)] σ (fun r σ' => σ' = σ ∧ r = some (.int (nI (isx a s n).toNat))) := by
  obtain ⟨hn, h1, h2⟩ := hk
  refine mt_X12_isOut rfl ?_
  have loop : ∀ (m j : Nat) (x y : Int32), j + m = n → x = nI j → y = nI (isx a s j).toNat → E_X12_isOut (fun r σ' => σ' = σ ∧ r = some (.int (nI (isx a s n).toNat))) 4 [(0, .ref 0), (1, .int (nI s)), (2, .int y), (3, .int x)] [] σ := by
    intro m
    induction m with
    | zero =>
      intro j x y hj hx hy
      subst hx hy
      have : j = n := by omega
      subst this
      refine ev_X12_isOut [4] 100 ?_
      refine vt (by rw [h1]; exact Int32.le_refl _) ?_
      refine ⟨?_, rfl, rfl⟩
      cases isx a s j
      · exact Or.inl rfl
      · exact Or.inr rfl
    | succ m ih =>
      intro j x y hj hx hy
      subst hx hy
      refine ev_X12_isOut [4] 100 ?_
      refine vf (by rw [h1]; exact nnle n j (by omega) (by omega)) ?_
      have e : isx a s (j + 1) = (isx a s j || decide (a j = s)) := rfl
      cases hb : isx a s j with
      | true =>
        refine vnt n10 ?_
        refine ih (j + 1) _ _ (by omega) (nI_add j 1) ?_
        rw [e, hb]
        rfl
      | false =>
        refine vnf rfl ?_
        refine And.intro (nin j 8 (by omega) (by decide)) ?_
        have hj2 := h2 j (by omega)
        by_cases q : a j = s
        · refine vnf (by rw [nI_clamp (by omega), hj2.2, q]) ?_
          refine ih (j + 1) _ _ (by omega) (nI_add j 1) ?_
          rw [e, hb, decide_eq_true q]
          rfl
        · refine vnt (by rw [nI_clamp (by omega), hj2.2]; exact nne (a j) s q (by omega) (by omega)) ?_
          refine ih (j + 1) _ _ (by omega) (nI_add j 1) ?_
          rw [e, hb, decide_eq_false q]
          rfl
  refine ev_X12_isOut [4] 100 ?_
  exact loop n 0 _ _ (by omega) rfl rfl
theorem ray_I {L d c : Nat} (hL : L < 32) (h1 : 1 ≤ d) (hd : d ≤ 8) (hc : c < 32) : (nI 8 * nI L + nI 4 + nI d * (nI c - nI L)) / nI 8 = nI (ray L d c) := by
  have e : nI 8 * nI L + nI 4 + nI d * (nI c - nI L) = nI ((8 - d) * L + 4 + d * c) := by
    have e1 : nI d * (nI c - nI L) = nI (d * c) - nI (d * L) := by rw [Int32.mul_sub, pk_mul, pk_mul]
    have h8 : d * L ≤ 8 * L := Nat.mul_le_mul_right L hd
    have h9 : (8 - d) * L = 8 * L - d * L := Nat.sub_mul 8 d L
    rw [e1, pk_mul, nI_add, Int32.sub_eq_add_neg, ← Int32.add_assoc, ← Int32.sub_eq_add_neg, nI_add, pk_sub (by omega)]
    congr 1
    omega
  have hb : (8 - d) * L + 4 + d * c < 2 ^ 31 := by
    have h1 : (8 - d) * L ≤ 8 * 32 := Nat.mul_le_mul (by omega) (by omega)
    have h2 : d * c ≤ 8 * 32 := Nat.mul_le_mul hd (by omega)
    omega
  rw [e, pk_div hb (by decide) (by decide)]
  rfl
/-- whether a figure covers a cell -/
theorem r_isOver {σ : qw_M} {T : TT} {L : Nat} {x : DP} {s : Nat} {go : Int32} (hT : rf σ T) (hL : mL σ L) (hd : lvs σ (tF T) s x) (hg : (σ 0).1 21 = go) (hs : s < 20) {k c : Nat} (hk : k < tF T) (hc : c < 32) : qw_Mt qw_tw wM my_X12_isOver [.ref 0, .int (nI s), .int (nI k), .int (nI c)] σ (fun r σ' => σ' = σ ∧ r = some (.int (nI (!bt go k && cv T L x.1 x.2 k c).toNat))) := by
  have hF := hT.1.1
  obtain ⟨o1, o2, o3, o4, o5, o6, o7⟩ := hT.1.2 k hk
  obtain ⟨f1, f2, f3, f4, f5⟩ := hT.2.2 k hk
  obtain ⟨⟨d1, d2, d3⟩, d4, d5⟩ := hd k hk
  have hray := ray_lt hL.1 d2 hc (L := L) (d := x.1 k) (c := c)
  have em : (nI 8 * (σ 0).1 13 + nI 4 + (σ 13).1 (nI 8 * nI s + nI k).toNatClampNeg * (nI c - (σ 0).1 13)) / nI 8 - (σ 14).1 (nI 8 * nI s + nI k).toNatClampNeg = nI (ray L (x.1 k) c) - nI (x.2 k) := by
    rw [hL.2, ixc (by omega), d4, d5, ray_I hL.1 d1 d2 hc]
  have eT : ((nI (ray L (x.1 k) c) - nI (x.2 k)).toInt64).toInt = (ray L (x.1 k) c : Int) - x.2 k := by rw [Int32.toInt_toInt64, pk_sub_toInt (by omega) (by omega)]
  have e3 : ((σ 7).1 (nI 4 * nI k + nI 3).toNatClampNeg - nI 1) = nI (tM T k - 1) := by rw [ixc (by omega), f4, pk_sub (by omega)]
  have e3T : ((nI (tM T k - 1)).toInt64).toInt = (tM T k : Int) - 1 := by
    rw [Int32.toInt_toInt64, nI_toInt (by omega)]
    omega
  have ec : (σ 8).1 (nI k).toNatClampNeg = nI (tK T k) := by rw [nI_clamp (by omega), f5]
  generalize hQ : (fun (r : Option Value) (σ' : qw_M) => σ' = σ ∧ r = some (.int (nI (!bt go k && cv T L x.1 x.2 k c).toNat))) = Q
  refine mt_X12_isOver (Q := Q) rfl (ev_X12_isOver [] 100 ?_)
  refine And.intro (pk_in (8 * s + k) 160 (by omega) (ixm 8 s k)) ?_
  refine And.intro (by decide) ?_
  refine And.intro (pk_in (8 * s + k) 160 (by omega) (ixm 8 s k)) ?_
  refine ⟨trivial, _, r_isInE rfl (k := k) (by omega), fun z σ1 h01 ⟨k1, k2⟩ => ?_⟩
  cases k2
  have k1 := k1.symm
  subst k1
  cases hgo : bt ((σ 0).1 21) k with
  | true =>
    refine vnt n10 ?_
    subst hQ
    refine ⟨Or.inl rfl, rfl, ?_⟩
    rw [← hg, hgo]
    rfl
  | false =>
    refine vnf rfl ?_
    refine And.intro (pk_in (4 * k + 3) 32 (by omega) (ixm 4 k 3)) ?_
    refine ⟨trivial, _, r_inZ (z := decide (x.2 k ≤ ray L (x.1 k) c ∧ ray L (x.1 k) c < x.2 k + tM T k)) (by rw [em, e3, eT, e3T]; exact decide_eq_decide.mpr ⟨fun h => ⟨by have h1 := h.1; change (0 : Int) ≤ _ at h1; omega, by omega⟩, fun h => ⟨by change (0 : Int) ≤ _; omega, by omega⟩⟩), fun z σ1 h01 ⟨k1, k2⟩ => ?_⟩
    cases k2
    have k1 := k1.symm
    subst k1
    by_cases q : x.2 k ≤ ray L (x.1 k) c ∧ ray L (x.1 k) c < x.2 k + tM T k
    · refine vf (by rw [decide_eq_true q]; exact n10) ?_
      refine And.intro (pk_in k 8 (by omega) rfl) ?_
      refine ⟨trivial, _, r_isInE (k := ray L (x.1 k) c - x.2 k) (by rw [em, pk_sub q.1]) (by omega), fun z σ1 h01 ⟨k1, k2⟩ => ?_⟩
      cases k2
      have k1 := k1.symm
      subst k1
      have eb : bt ((σ 8).1 (nI k).toNatClampNeg) (ray L (x.1 k) c - x.2 k) = cv T L x.1 x.2 k c := by
        rw [ec, bt_nI (by omega)]
        unfold cv over
        rw [decide_eq_true q.1]
        rfl
      rw [← hg, hgo, ← eb] at hQ
      cases hb : bt ((σ 8).1 (nI k).toNatClampNeg) (ray L (x.1 k) c - x.2 k) with
      | true =>
        refine vf n10 ?_
        rw [hb] at hQ
        subst hQ
        exact ⟨Or.inr rfl, rfl, rfl⟩
      | false =>
        refine vt rfl ?_
        rw [hb] at hQ
        subst hQ
        exact ⟨Or.inl rfl, rfl, rfl⟩
    · refine vt (by rw [decide_eq_false q]; rfl) ?_
      have eb : cv T L x.1 x.2 k c = false := by
        unfold cv over
        by_cases q1 : x.2 k ≤ ray L (x.1 k) c
        · rw [Nat.testBit_lt_two_pow (Nat.lt_of_lt_of_le o7 (Nat.pow_le_pow_right (by decide) (by omega)))]
          simp
        · rw [decide_eq_false q1]
          rfl
      rw [eb] at hQ
      subst hQ
      refine ⟨Or.inl rfl, rfl, ?_⟩
      rw [Bool.and_false]
      rfl
/-- the light of a cell in step s, the figures being there, some gone -/
def lgD (T : TT) (n : Nat) (a : Nat → Nat) (L s : Nat) (x : DP) (wo : Nat → Bool) (c : Nat) : Nat := if isx a s n then 0 else lit (tF T) (cv T L x.1 x.2) (tC T) wo 8 c
theorem lit_hi {F : Nat} {cov : Nat → Nat → Bool} {q : Nat → Nat} {wo : Nat → Bool} {c : Nat} : ∀ k, lit F cov q wo (F + k) c = lit F cov q wo F c
  | 0 => rfl
  | k + 1 => by
    show (if !wo (F + k) && (decide (F + k < F) && cov (F + k) c) then lit F cov q wo (F + k) c &&& leave (q (F + k)) else lit F cov q wo (F + k) c) = _
    rw [decide_eq_false (by omega), lit_hi k]
    simp
theorem lit_8 {F : Nat} (h : F ≤ 8) {cov : Nat → Nat → Bool} {q : Nat → Nat} {wo : Nat → Bool} {c : Nat} : lit F cov q wo 8 c = lit F cov q wo F c := by
  have := lit_hi (F := F) (cov := cov) (q := q) (wo := wo) (c := c) (8 - F)
  rwa [show F + (8 - F) = 8 by omega] at this
theorem lit_lt {F : Nat} {cov : Nat → Nat → Bool} {q : Nat → Nat} {wo : Nat → Bool} {c : Nat} : ∀ k, lit F cov q wo k c < 8
  | 0 => Nat.le_refl 8
  | k + 1 => by
    unfold lit
    split
    · exact Nat.lt_of_le_of_lt Nat.and_le_left (lit_lt k)
    · exact lit_lt k
theorem lgD_lt {T : TT} {n : Nat} {a : Nat → Nat} {L s : Nat} {x : DP} {wo : Nat → Bool} {c : Nat} : lgD T n a L s x wo c < 8 := by
  unfold lgD
  split
  · decide
  · exact lit_lt 8
theorem lv_I : ∀ q, q < 4 → ¬ q = 0 → nI 8 >>> (nI q &&& 31) = nI (leave q) := by
  intro q h h0
  match q, h, h0 with
  | 0, _, h0 => exact absurd rfl h0
  | 1, _, _ => decide
  | 2, _, _ => decide
  | 3, _, _ => decide
theorem r_lightOf {σ : qw_M} {T : TT} {n : Nat} {a : Nat → Nat} {L : Nat} {x : DP} {s : Nat} {go : Int32} (hT : rf σ T) (hk : mfk σ n a) (hL : mL σ L) (hd : lvs σ (tF T) s x) (hg : (σ 0).1 21 = go) (hs : s < 20) {c : Nat} (hc : c < 32) : qw_Mt qw_tw wM my_X12_lightOf [.ref 0, .int (nI s), .int (nI c)] σ (fun r σ' => σ' = σ ∧ r = some (.int (nI (lgD T n a L s x (bt go) c)))) := by
  have hF := hT.1.1
  generalize hv : (fun j => if isx a s n then 0 else lit (tF T) (cv T L x.1 x.2) (tC T) (bt go) j c) = v
  have hv' : ∀ j, v j = if isx a s n then 0 else lit (tF T) (cv T L x.1 x.2) (tC T) (bt go) j c := fun j => by rw [← hv]
  have he : lgD T n a L s x (bt go) c = v (tF T) := by
    rw [hv']
    unfold lgD
    rw [lit_8 hF]
  have hst : ∀ j, j < tF T → v (j + 1) = if (!bt go j && cv T L x.1 x.2 j c) then v j &&& leave (tC T j) else v j := fun j hj => by
    rw [hv', hv']
    by_cases q : isx a s n = true
    · rw [if_pos q, if_pos q, Nat.zero_and]
      split <;> rfl
    · rw [if_neg q, if_neg q]
      show (if !bt go j && (decide (j < tF T) && cv T L x.1 x.2 j c) then _ else _) = _
      rw [decide_eq_true hj, Bool.true_and]
  have hvl : ∀ j, v j < 8 := fun j => by
    rw [hv']
    split
    · decide
    · exact lit_lt j
  rw [he]
  refine mt_X12_lightOf rfl ?_
  have loop : ∀ (m j : Nat) (y z : Int32), j + m = tF T → y = nI j → z = nI (v j) → E_X12_lightOf (fun r σ' => σ' = σ ∧ r = some (.int (nI (v (tF T))))) 18 [(0, .ref 0), (1, .int (nI s)), (2, .int (nI c)), (3, .int z), (4, .int y)] [] σ := by
    intro m
    induction m with
    | zero =>
      intro j y z hj hy hz
      subst hy hz
      refine ev_X12_lightOf [18] 100 ?_
      refine vt (by rw [hT.2.1]; exact nle (tF T) j (by omega) (by omega)) ?_
      have : j = tF T := by omega
      rw [this]
      exact ⟨rfl, rfl⟩
    | succ m ih =>
      intro j y z hj hy hz
      subst hy hz
      have hjF : j < tF T := by omega
      obtain ⟨f1, f2, f3, f4, f5⟩ := hT.2.2 j hjF
      have o4 := (hT.1.2 j hjF).2.2.2.1
      have ef : (σ 7).1 (nI 4 * nI j + nI 2).toNatClampNeg = nI (tC T j) := by rw [ixc (by omega), f3]
      refine ev_X12_lightOf [18] 100 ?_
      refine vf (by rw [hT.2.1]; exact nnle (tF T) j hjF (by omega)) ?_
      refine ⟨trivial, _, r_isOver hT hL hd hg hs hjF hc, fun y σ1 h01 ⟨k1, k2⟩ => ?_⟩
      cases k2
      have k1 := k1.symm
      subst k1
      cases hb : (!bt go j && cv T L x.1 x.2 j c) with
      | true =>
        refine vf n10 ?_
        refine And.intro (pk_in (4 * j + 2) 32 (by omega) (ixm 4 j 2)) ?_
        have hs1 := hst j hjF
        rw [hb, if_pos rfl] at hs1
        by_cases q : tC T j = 0
        · refine vnf (by rw [ef, q]; rfl) ?_
          refine ih (j + 1) _ _ (by omega) (nI_add j 1) ?_
          rw [hs1, q, nx_and]
          rfl
        · refine vnt (by rw [ef]; exact nI_ne0 (by omega) (by omega)) ?_
          refine And.intro (pk_in (4 * j + 2) 32 (by omega) (ixm 4 j 2)) ?_
          refine ih (j + 1) _ _ (by omega) (nI_add j 1) ?_
          rw [hs1, ef, lv_I _ o4 q, nx_and]
      | false =>
        refine vt rfl ?_
        have hs1 := hst j hjF
        rw [hb, if_neg (by decide)] at hs1
        refine ih (j + 1) _ _ (by omega) (nI_add j 1) ?_
        rw [hs1, nx_and, and7 _ (hvl j)]
  refine ev_X12_lightOf [18] 100 ?_
  refine ⟨trivial, _, r_isOut hk hs, fun y σ1 h01 ⟨k1, k2⟩ => ?_⟩
  cases k2
  have k1 := k1.symm
  subst k1
  have h0 := hv' 0
  cases ho : isx a s n with
  | true =>
    refine vf n10 ?_
    refine loop (tF T) 0 _ _ (by omega) rfl ?_
    rw [h0, ho]
    rfl
  | false =>
    refine vt rfl ?_
    refine loop (tF T) 0 _ _ (by omega) rfl ?_
    rw [h0, ho]
    rfl
theorem r_coversOf {σ : qw_M} {T : TT} {L : Nat} {x : DP} {s : Nat} {go : Int32} (hT : rf σ T) (hL : mL σ L) (hd : lvs σ (tF T) s x) (hg : (σ 0).1 21 = go) (hs : s < 20) {c : Nat} (hc : c < 32) : qw_Mt qw_tw wM my_X12_coversOf [.ref 0, .int (nI s), .int (nI c)] σ (fun r σ' => σ' = σ ∧ r = some (.int (bI (fun i => decide (i < tF T) && (!bt go i && cv T L x.1 x.2 i c))))) := by
  have hF := hT.1.1
  refine mt_X12_coversOf rfl ?_
  have loop : ∀ (m j : Nat) (y z : Int32), j + m = tF T → y = nI j → (∀ i, i < 32 → bt z i = (decide (i < j) && (!bt go i && cv T L x.1 x.2 i c))) → E_X12_coversOf (fun r σ' => σ' = σ ∧ r = some (.int (bI (fun i => decide (i < tF T) && (!bt go i && cv T L x.1 x.2 i c))))) 5 [(0, .ref 0), (1, .int (nI s)), (2, .int (nI c)), (3, .int z), (4, .int y)] [] σ := by
    intro m
    induction m with
    | zero =>
      intro j y z hj hy hz
      subst hy
      refine ev_X12_coversOf [5] 100 ?_
      refine vt (by rw [hT.2.1]; exact nle (tF T) j (by omega) (by omega)) ?_
      have : j = tF T := by omega
      subst this
      refine ⟨rfl, ?_⟩
      exact congrArg (fun z => some (Value.int z)) (bI_eq hz)
    | succ m ih =>
      intro j y z hj hy hz
      subst hy
      have hjF : j < tF T := by omega
      refine ev_X12_coversOf [5] 100 ?_
      refine vf (by rw [hT.2.1]; exact nnle (tF T) j hjF (by omega)) ?_
      refine ⟨trivial, _, r_isOver hT hL hd hg hs hjF hc, fun y σ1 h01 ⟨k1, k2⟩ => ?_⟩
      cases k2
      have k1 := k1.symm
      subst k1
      cases hb : (!bt go j && cv T L x.1 x.2 j c) with
      | true =>
        refine vf n10 ?_
        refine ih (j + 1) _ _ (by omega) (nI_add j 1) (fun i hi => ?_)
        rw [b_or, hz i hi, bt_shl1 (by omega) hi]
        by_cases q : i = j
        · subst q
          rw [hb]
          simp
        · rw [decide_eq_false q, show decide (i < j + 1) = decide (i < j) by simp; omega, Bool.or_false]
      | false =>
        refine vt rfl ?_
        refine ih (j + 1) _ _ (by omega) (nI_add j 1) (fun i hi => ?_)
        rw [b_or, hz i hi, b_n0, Bool.or_false]
        by_cases q : i = j
        · subst q
          rw [hb]
          simp
        · rw [show decide (i < j + 1) = decide (i < j) by simp; omega]
  refine ev_X12_coversOf [5] 100 ?_
  refine loop (tF T) 0 _ _ (by omega) rfl (fun i hi => ?_)
  rw [b_n0]
  simp
theorem r_cellsTold {σ : qw_M} {P : Nat → Option Nat} (hP : rp σ P) : qw_Mt qw_tw wM my_X12_cellsTold [.ref 0] σ (fun r σ' => σ' = σ ∧ r = some (.int (nI (ptl P)))) := by
  refine mt_X12_cellsTold rfl ?_
  have loop : ∀ (m j : Nat) (y z : Int32), j + m = 32 → y = nI j → z = nI (cnt (fun c => (P c).isSome) j) → E_X12_cellsTold (fun r σ' => σ' = σ ∧ r = some (.int (nI (ptl P)))) 4 [(0, .ref 0), (1, .int z), (2, .int y)] [] σ := by
    intro m
    induction m with
    | zero =>
      intro j y z hj hy hz
      subst hy hz
      have : j = 32 := by omega
      subst this
      refine ev_X12_cellsTold [4] 100 ?_
      refine vt (Int32.le_refl _) ?_
      exact ⟨rfl, rfl⟩
    | succ m ih =>
      intro j y z hj hy hz
      subst hy hz
      obtain ⟨p1, p2⟩ := hP j (by omega)
      have e : cnt (fun c => (P c).isSome) (j + 1) = cnt (fun c => (P c).isSome) j + (P j).isSome.toNat := rfl
      refine ev_X12_cellsTold [4] 100 ?_
      refine vf (nnle 32 j (by omega) (by omega)) ?_
      refine And.intro (nin j 32 (by omega) (by decide)) ?_
      cases hp : P j with
      | none =>
        refine vnf (by rw [nI_clamp (by omega), p1, hp]; rfl) ?_
        refine ih (j + 1) _ _ (by omega) (nI_add j 1) ?_
        rw [e, hp, nI_add]
        rfl
      | some v =>
        refine vnt (by rw [nI_clamp (by omega), p1, hp]; exact nI_m1 (a := v) (by have := p2 v hp; omega)) ?_
        refine ih (j + 1) _ _ (by omega) (nI_add j 1) ?_
        rw [e, hp, nI_add]
        rfl
  refine ev_X12_cellsTold [4] 100 ?_
  exact loop 32 0 _ _ rfl rfl rfl
theorem r_falseOf {σ : qw_M} {T : TT} {P : Nat → Option Nat} {n : Nat} {a : Nat → Nat} {L : Nat} {x : DP} {s : Nat} {go : Int32} (hT : rf σ T) (hP : rp σ P) (hk : mfk σ n a) (hL : mL σ L) (hd : lvs σ (tF T) s x) (hg : (σ 0).1 21 = go) (hs : s < 20) : qw_Mt qw_tw wM my_X12_falseOf [.ref 0, .int (nI s)] σ (fun r σ' => σ' = σ ∧ r = some (.int (nI (pfa P (lgD T n a L s x (bt go)))))) := by
  generalize hG : lgD T n a L s x (bt go) = G
  have hl : ∀ c, c < 32 → qw_Mt qw_tw wM my_X12_lightOf [.ref 0, .int (nI s), .int (nI c)] σ (fun r σ' => σ' = σ ∧ r = some (.int (nI (G c)))) := fun c hc => by
    rw [← hG]
    exact r_lightOf hT hk hL hd hg hs hc
  have hG8 : ∀ c, G c < 8 := fun c => by
    rw [← hG]
    exact lgD_lt
  refine mt_X12_falseOf rfl ?_
  have loop : ∀ (m j : Nat) (y z : Int32), j + m = 32 → y = nI j → z = nI (cnt (pwr P G) j) → E_X12_falseOf (fun r σ' => σ' = σ ∧ r = some (.int (nI (pfa P G)))) 4 [(0, .ref 0), (1, .int (nI s)), (2, .int z), (3, .int y)] [] σ := by
    intro m
    induction m with
    | zero =>
      intro j y z hj hy hz
      subst hy hz
      have : j = 32 := by omega
      subst this
      refine ev_X12_falseOf [4] 100 ?_
      refine vt (Int32.le_refl _) ?_
      exact ⟨rfl, rfl⟩
    | succ m ih =>
      intro j y z hj hy hz
      subst hy hz
      obtain ⟨p1, p2⟩ := hP j (by omega)
      have e : cnt (pwr P G) (j + 1) = cnt (pwr P G) j + (pwr P G j).toNat := rfl
      refine ev_X12_falseOf [4] 100 ?_
      refine vf (nnle 32 j (by omega) (by omega)) ?_
      refine And.intro (nin j 32 (by omega) (by decide)) ?_
      cases hp : P j with
      | none =>
        have ew : pwr P G j = false := by unfold pwr; rw [hp]
        refine vt (by rw [nI_clamp (by omega), p1, hp]; rfl) ?_
        refine ih (j + 1) _ _ (by omega) (nI_add j 1) ?_
        rw [e, ew, nI_add]
        rfl
      | some v =>
        have hv8 := p2 v hp
        have ep : (σ 11).1 (nI j).toNatClampNeg = nI v := by rw [nI_clamp (by omega), p1, hp]; rfl
        refine vf (by rw [ep]; exact nI_m1 (a := v) (by omega)) ?_
        refine And.intro (nin j 32 (by omega) (by decide)) ?_
        refine ⟨trivial, _, hl j (by omega), fun y σ1 ⟨k1, k2⟩ => ?_⟩
        cases k2
        have k1 := k1.symm
        subst k1
        by_cases q : v = G j
        · have ew : pwr P G j = false := by unfold pwr; rw [hp]; simp [q]
          refine vt (by rw [ep, q]) ?_
          refine ih (j + 1) _ _ (by omega) (nI_add j 1) ?_
          rw [e, ew, nI_add]
          rfl
        · have ew : pwr P G j = true := by unfold pwr; rw [hp]; simp [q]
          refine vf (by rw [ep]; exact nne v (G j) q (by omega) (by have := hG8 j; omega)) ?_
          refine ih (j + 1) _ _ (by omega) (nI_add j 1) ?_
          rw [e, ew, nI_add]
          rfl
  refine ev_X12_falseOf [4] 100 ?_
  exact loop 32 0 _ _ rfl rfl rfl
theorem r_darkOf {σ : qw_M} {T : TT} {n : Nat} {a : Nat → Nat} {L : Nat} {x : DP} {s : Nat} {go : Int32} (hT : rf σ T) (hk : mfk σ n a) (hL : mL σ L) (hd : lvs σ (tF T) s x) (hg : (σ 0).1 21 = go) (hs : s < 20) : qw_Mt qw_tw wM my_X12_darkOf [.ref 0, .int (nI s)] σ (fun r σ' => σ' = σ ∧ r = some (.int (nI (cnt (fun c => lgD T n a L s x (bt go) c == 0) 32)))) := by
  generalize hG : lgD T n a L s x (bt go) = G
  have hl : ∀ c, c < 32 → qw_Mt qw_tw wM my_X12_lightOf [.ref 0, .int (nI s), .int (nI c)] σ (fun r σ' => σ' = σ ∧ r = some (.int (nI (G c)))) := fun c hc => by
    rw [← hG]
    exact r_lightOf hT hk hL hd hg hs hc
  have hG8 : ∀ c, G c < 8 := fun c => by
    rw [← hG]
    exact lgD_lt
  refine mt_X12_darkOf rfl ?_
  have loop : ∀ (m j : Nat) (y z : Int32), j + m = 32 → y = nI j → z = nI (cnt (fun c => G c == 0) j) → E_X12_darkOf (fun r σ' => σ' = σ ∧ r = some (.int (nI (cnt (fun c => G c == 0) 32)))) 4 [(0, .ref 0), (1, .int (nI s)), (2, .int z), (3, .int y)] [] σ := by
    intro m
    induction m with
    | zero =>
      intro j y z hj hy hz
      subst hy hz
      have : j = 32 := by omega
      subst this
      refine ev_X12_darkOf [4] 100 ?_
      refine vt (Int32.le_refl _) ?_
      exact ⟨rfl, rfl⟩
    | succ m ih =>
      intro j y z hj hy hz
      subst hy hz
      have e : cnt (fun c => G c == 0) (j + 1) = cnt (fun c => G c == 0) j + (G j == 0).toNat := rfl
      refine ev_X12_darkOf [4] 100 ?_
      refine vf (nnle 32 j (by omega) (by omega)) ?_
      refine ⟨trivial, _, hl j (by omega), fun y σ1 ⟨k1, k2⟩ => ?_⟩
      cases k2
      have k1 := k1.symm
      subst k1
      have hg8 := hG8 j
      by_cases q : G j = 0
      · refine vnf (by rw [q]; rfl) ?_
        refine ih (j + 1) _ _ (by omega) (nI_add j 1) ?_
        rw [e, q, nI_add]
        rfl
      · refine vnt (nI_ne0 (by omega) (by omega)) ?_
        refine ih (j + 1) _ _ (by omega) (nI_add j 1) ?_
        rw [e, beq_false_of_ne q, nI_add]
        rfl
  refine ev_X12_darkOf [4] 100 ?_
  exact loop 32 0 _ _ rfl rfl rfl
theorem r_isShown {σ : qw_M} {T : TT} {P : Nat → Option Nat} {n : Nat} {a : Nat → Nat} {L : Nat} {x : DP} {s : Nat} {go : Int32} (hT : rf σ T) (hP : rp σ P) (hk : mfk σ n a) (hL : mL σ L) (hd : lvs σ (tF T) s x) (hg : (σ 0).1 21 = go) (hs : s < 20) : qw_Mt qw_tw wM my_X12_isShown [.ref 0, .int (nI s)] σ (fun r σ' => σ' = σ ∧ r = some (.int (nI (psh P (lgD T n a L s x (bt go))).toNat))) := by
  have hp32 : ptl P ≤ 32 := cnt_le _ _
  have hf32 := pfa_le P (lgD T n a L s x (bt go))
  refine mt_X12_isShown rfl (ev_X12_isShown [] 100 ?_)
  refine ⟨trivial, _, r_cellsTold hP, fun y σ1 ⟨k1, k2⟩ => ?_⟩
  cases k2
  have k1 := k1.symm
  subst k1
  unfold psh
  by_cases q : 0 < ptl P
  · rw [decide_eq_true q]
    refine vf (nI_nle q (by omega)) ?_
    refine ⟨trivial, _, r_falseOf hT hP hk hL hd hg hs, fun y σ1 ⟨k1, k2⟩ => ?_⟩
    cases k2
    have k1 := k1.symm
    subst k1
    by_cases q2 : pfa P (lgD T n a L s x (bt go)) = 0
    · rw [decide_eq_true q2]
      refine vnf (by rw [q2]; rfl) ?_
      exact ⟨Or.inr rfl, rfl, rfl⟩
    · rw [decide_eq_false q2]
      refine vnt (nI_ne0 (by omega) (by omega)) ?_
      exact ⟨Or.inl rfl, rfl, rfl⟩
  · rw [decide_eq_false q]
    refine vt (by rw [show ptl P = 0 by omega]; exact Int32.le_refl _) ?_
    exact ⟨Or.inl rfl, rfl, rfl⟩
