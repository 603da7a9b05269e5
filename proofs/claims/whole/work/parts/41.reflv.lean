/-! The reference: figures moved, step by step -/
theorem frMdp {σ σ' : qw_M} (h : frM [15, 16] [] σ σ') : frM [13, 14, 15, 16] [] σ σ' := h.mo (by decide) (by decide)
/-- one place, one depth more -/
theorem dpP {σ : qw_M} {F f v : Nat} {x : DP} (h : dp σ F x) (hv : v < 32) : dp (qw_pi σ 16 f (nI v)) F (x.1, va_up x.2 f v) := fun k hk => by
  obtain ⟨⟨h1, h2, h3⟩, h4, h5⟩ := h k hk
  rw [pi_off (c := 15) (k := 16) (by decide), pi_at]
  by_cases q : k = f
  · subst q
    refine ⟨⟨h1, h2, ?_⟩, h4, ?_⟩
    · show va_up x.2 k v k < 32
      rw [up_eq]
      exact hv
    · show _ = nI (va_up x.2 k v k)
      rw [if_pos rfl, up_eq]
  · refine ⟨⟨h1, h2, ?_⟩, h4, ?_⟩
    · show va_up x.2 f v k < 32
      rw [up_ne q]
      exact h3
    · show _ = nI (va_up x.2 f v k)
      rw [if_neg q, up_ne q]
      exact h5
theorem dpD {σ : qw_M} {F f v : Nat} {x : DP} (h : dp σ F x) (h1v : 1 ≤ v) (hv : v ≤ 8) : dp (qw_pi σ 15 f (nI v)) F (va_up x.1 f v, x.2) := fun k hk => by
  obtain ⟨⟨h1, h2, h3⟩, h4, h5⟩ := h k hk
  rw [pi_off (c := 16) (k := 15) (by decide), pi_at]
  by_cases q : k = f
  · subst q
    refine ⟨⟨?_, ?_, h3⟩, ?_, h5⟩
    · show 1 ≤ va_up x.1 k v k
      rw [up_eq]
      exact h1v
    · show va_up x.1 k v k ≤ 8
      rw [up_eq]
      exact hv
    · show _ = nI (va_up x.1 k v k)
      rw [if_pos rfl, up_eq]
  · refine ⟨⟨?_, ?_, h3⟩, ?_, h5⟩
    · show 1 ≤ va_up x.1 f v k
      rw [up_ne q]
      exact h1
    · show va_up x.1 f v k ≤ 8
      rw [up_ne q]
      exact h2
    · show _ = nI (va_up x.1 f v k)
      rw [if_neg q, up_ne q]
      exact h4
theorem r_greaterE {x y : Int32} {z : Int32} (h : (if y < x then x else y) = z) {σ : qw_M} : qw_Mt qw_tw wM my_X12_greater [.int x, .int y] σ (fun r σ' => σ' = σ ∧ r = some (.int z)) := by
  subst h
  exact r_greaterI x y
theorem r_lesserE {x y : Int32} {a b c : Nat} (hx : x = nI a) (hy : y = nI b) (ha : a < 2 ^ 31) (hb : b < 2 ^ 31) (h : (if a < b then a else b) = c) {σ : qw_M} : qw_Mt qw_tw wM my_X12_lesser [.int x, .int y] σ (fun r σ' => σ' = σ ∧ r = some (.int (nI c))) := by
  subst hx hy h
  exact r_lesser ha hb
theorem r_goes {σ : qw_M} {F : Nat} {x : DP} (hF : F ≤ 8) (hd : dp σ F x) {u v : Int32} {k w : Nat} (hu : u = nI k) (hv : v = nI w) (hk : k < F) (hw : w < 4) : qw_Mt qw_tw wM my_X12_goes [.ref 0, .int u, .int v] σ (fun _ σ' => frM [15, 16] [] σ σ' ∧ dp σ' F (stp F (some (k, w)) x)) := by
  subst hu hv
  obtain ⟨⟨d1, d2, d3⟩, d4, d5⟩ := hd k hk
  have est : stp F (some (k, w)) x = (va_up x.1 k (mvD w (x.1 k)), va_up x.2 k (mvP w (x.2 k))) := by
    unfold stp
    exact if_pos hk
  rw [est]
  have ecl : (nI k).toNatClampNeg = k := nI_clamp (by omega)
  have pl : ∀ v, v < 32 → mvD w (x.1 k) = x.1 k → mvP w (x.2 k) = v → frM [15, 16] [] σ (qw_pi σ 16 (nI k).toNatClampNeg (nI v)) ∧ dp (qw_pi σ 16 (nI k).toNatClampNeg (nI v)) F (va_up x.1 k (mvD w (x.1 k)), va_up x.2 k (mvP w (x.2 k))) := fun v hv e1 e2 => by
    rw [e1, e2, up_id, ecl]
    exact ⟨frM.pi (by decide) (by decide), dpP hd hv⟩
  have dl : ∀ v, 1 ≤ v → v ≤ 8 → mvD w (x.1 k) = v → mvP w (x.2 k) = x.2 k → frM [15, 16] [] σ (qw_pi σ 15 (nI k).toNatClampNeg (nI v)) ∧ dp (qw_pi σ 15 (nI k).toNatClampNeg (nI v)) F (va_up x.1 k (mvD w (x.1 k)), va_up x.2 k (mvP w (x.2 k))) := fun v h1 hv e1 e2 => by
    rw [e1, e2, up_id, ecl]
    exact ⟨frM.pi (by decide) (by decide), dpD hd h1 hv⟩
  refine mt_X12_goes rfl (ev_X12_goes [] 100 ?_)
  by_cases w0 : w = 0
  · refine vnf (by rw [w0]; rfl) ?_
    refine And.intro (nin k 8 (by omega) (by decide)) ?_
    have eg : (if nI 0 < (σ 16).1 (nI k).toNatClampNeg - nI 1 then (σ 16).1 (nI k).toNatClampNeg - nI 1 else nI 0) = nI (x.2 k - 1) := by
      rw [ecl, d5]
      by_cases q : x.2 k = 0
      · rw [q]
        decide
      · rw [pk_sub (by omega)]
        by_cases q1 : x.2 k = 1
        · rw [q1]
          decide
        · rw [if_pos (nlt 0 (x.2 k - 1) (by omega) (by omega))]
    refine ⟨trivial, _, r_greaterE eg, fun y σ1 ⟨k1, k2⟩ => ?_⟩
    cases k2
    have k1 := k1.symm
    subst k1
    refine And.intro (nin k 8 (by omega) (by decide)) ?_
    exact pl (x.2 k - 1) (by omega) (by rw [w0]; rfl) (by rw [w0]; rfl)
  · refine vnt (nI_ne0 (n := w) (by omega) (by omega)) ?_
    by_cases w1 : w = 1
    · refine vnf (by rw [w1]) ?_
      refine And.intro (nin k 8 (by omega) (by decide)) ?_
      refine ⟨trivial, _, r_lesserE (a := x.2 k + 1) (b := 31) (by rw [ecl, d5, nI_add]) rfl (by omega) (by decide) rfl, fun y σ1 ⟨k1, k2⟩ => ?_⟩
      cases k2
      have k1 := k1.symm
      subst k1
      refine And.intro (nin k 8 (by omega) (by decide)) ?_
      have hm : mvP w (x.2 k) = if x.2 k + 1 < 31 then x.2 k + 1 else 31 := by
        rw [w1]
        show (if x.2 k < 31 then x.2 k + 1 else x.2 k) = _
        split <;> split <;> omega
      exact pl (if x.2 k + 1 < 31 then x.2 k + 1 else 31) (by split <;> omega) (by rw [w1]; rfl) hm
    · refine vnt (nne w 1 w1 (by omega) (by omega)) ?_
      by_cases w2 : w = 2
      · refine vnf (by rw [w2]) ?_
        refine And.intro (nin k 8 (by omega) (by decide)) ?_
        have hm : mvD w (x.1 k) = if x.1 k - 1 ≤ 1 then 1 else x.1 k - 1 := by
          rw [w2]
          show (if 1 < x.1 k then x.1 k - 1 else x.1 k) = _
          split <;> split <;> omega
        have eg : (if nI 1 < (σ 15).1 (nI k).toNatClampNeg - nI 1 then (σ 15).1 (nI k).toNatClampNeg - nI 1 else nI 1) = nI (if x.1 k - 1 ≤ 1 then 1 else x.1 k - 1) := by
          rw [ecl, d4, pk_sub (by omega)]
          by_cases q : x.1 k - 1 ≤ 1
          · rw [if_pos q, if_neg (nnlt 1 (x.1 k - 1) q (by decide))]
          · rw [if_neg q, if_pos (nlt 1 (x.1 k - 1) (by omega) (by omega))]
        refine ⟨trivial, _, r_greaterE eg, fun y σ1 ⟨k1, k2⟩ => ?_⟩
        cases k2
        have k1 := k1.symm
        subst k1
        refine And.intro (nin k 8 (by omega) (by decide)) ?_
        exact dl (if x.1 k - 1 ≤ 1 then 1 else x.1 k - 1) (by split <;> omega) (by split <;> omega) hm (by rw [w2]; rfl)
      · refine vnt (nne w 2 w2 (by omega) (by omega)) ?_
        have w3 : w = 3 := by omega
        refine And.intro (nin k 8 (by omega) (by decide)) ?_
        refine ⟨trivial, _, r_lesserE (a := x.1 k + 1) (b := 8) (by rw [ecl, d4, nI_add]) rfl (by omega) (by decide) rfl, fun y σ1 ⟨k1, k2⟩ => ?_⟩
        cases k2
        have k1 := k1.symm
        subst k1
        refine And.intro (nin k 8 (by omega) (by decide)) ?_
        have hm : mvD w (x.1 k) = if x.1 k + 1 < 8 then x.1 k + 1 else 8 := by
          rw [w3]
          show (if x.1 k < 8 then x.1 k + 1 else x.1 k) = _
          split <;> split <;> omega
        exact dl (if x.1 k + 1 < 8 then x.1 k + 1 else 8) (by split <;> omega) (by split <;> omega) hm (by rw [w3]; rfl)
/-- what of the kept rows stays: all but step s -/
def kst (s : Nat) (σ σ' : qw_M) : Prop := ∀ i, i < 8 * s ∨ 8 * s + 8 ≤ i → (σ' 13).1 i = (σ 13).1 i ∧ (σ' 14).1 i = (σ 14).1 i
theorem kst.lvs {s t F : Nat} {σ σ' : qw_M} {x : DP} (hF : F ≤ 8) (h : kst s σ σ') (hne : t ≠ s) (hl : lvs σ F t x) : lvs σ' F t x := fun k hk => by
  obtain ⟨h1, h2, h3⟩ := hl k hk
  obtain ⟨e1, e2⟩ := h (8 * t + k) (by omega)
  rw [e1, e2]
  exact ⟨h1, h2, h3⟩
theorem r_keeps {σ : qw_M} {F : Nat} {x : DP} (h7 : (σ 0).1 7 = nI F) (hF : F ≤ 8) (hd : dp σ F x) {s : Nat} (hs : s < 20) : qw_Mt qw_tw wM my_X12_keeps [.ref 0, .int (nI s)] σ (fun _ σ' => frM [13, 14] [] σ σ' ∧ lvs σ' F s x ∧ kst s σ σ') := by
  generalize hQ : (fun (_ : Option Value) (σ' : qw_M) => frM [13, 14] [] σ σ' ∧ lvs σ' F s x ∧ kst s σ σ') = Q
  refine mt_X12_keeps (Q := Q) rfl ?_
  have loop : ∀ (m j : Nat) (y : Int32) (σ' : qw_M), j + m = F → y = nI j → frM [13, 14] [] σ σ' → lvs σ' j s x → kst s σ σ' → E_X12_keeps Q 2 [(0, .ref 0), (1, .int (nI s)), (2, .int y)] [] σ' := by
    intro m
    induction m with
    | zero =>
      intro j y σ' hj hy hf hl hk
      subst hy
      have h7' : (σ' 0).1 7 = nI F := by rw [hf.2 7 (by decide)]; exact h7
      refine ev_X12_keeps [2] 100 ?_
      refine vt (by rw [h7']; exact nle F j (by omega) (by omega)) ?_
      have : j = F := by omega
      subst this
      subst hQ
      exact ⟨hf, hl, hk⟩
    | succ m ih =>
      intro j y σ' hj hy hf hl hk
      subst hy
      have h7' : (σ' 0).1 7 = nI F := by rw [hf.2 7 (by decide)]; exact h7
      have hd' := hd.fr hf (by decide) (by decide)
      obtain ⟨d1, d2, d3⟩ := hd' j (by omega)
      refine ev_X12_keeps [2] 100 ?_
      refine vf (by rw [h7']; exact nnle F j (by omega) (by omega)) ?_
      refine And.intro (nin j 8 (by omega) (by decide)) ?_
      refine And.intro (pk_in (8 * s + j) 160 (by omega) (ixm 8 s j)) ?_
      refine And.intro (nin j 8 (by omega) (by decide)) ?_
      refine And.intro (pk_in (8 * s + j) 160 (by omega) (ixm 8 s j)) ?_
      have e1 : (σ' 15).1 (nI j).toNatClampNeg = nI (x.1 j) := by rw [nI_clamp (by omega)]; exact d2
      have e2 : (qw_pi σ' 13 (nI 8 * nI s + nI j).toNatClampNeg ((σ' 15).1 (nI j).toNatClampNeg) 16).1 (nI j).toNatClampNeg = nI (x.2 j) := by rw [pi_off (by decide), nI_clamp (by omega)]; exact d3
      have hcl : (nI 8 * nI s + nI j).toNatClampNeg = 8 * s + j := ixc (by omega)
      refine ih (j + 1) _ _ (by omega) (nI_add j 1) (hf.tr ((frM.pi (by decide) (by decide)).tr (frM.pi (by decide) (by decide)))) ?_ ?_
      · intro k hk1
        rw [e2, e1, hcl, pi_off (c := 13) (k := 14) (by decide), pi_at, pi_at, pi_off (c := 14) (k := 13) (by decide)]
        by_cases q : k = j
        · subst q
          rw [if_pos rfl, if_pos rfl]
          exact ⟨d1, rfl, rfl⟩
        · rw [if_neg (by omega), if_neg (by omega)]
          exact hl k (by omega)
      · intro i hi
        rw [hcl, pi_off (c := 13) (k := 14) (by decide), pi_ne (by omega), pi_ne (by omega), pi_off (c := 14) (k := 13) (by decide)]
        exact hk i hi
  refine ev_X12_keeps [2] 100 ?_
  exact loop F 0 _ _ (by omega) rfl frM.rf (fun k hk => absurd hk (Nat.not_lt_zero k)) (fun i _ => ⟨rfl, rfl⟩)
theorem r_isFigure {x : Int32} {σ : qw_M} {F : Nat} (h7 : (σ 0).1 7 = nI F) (hF : F ≤ 8) : qw_Mt qw_tw wM my_X12_isFigure [.ref 0, .int x] σ (fun r σ' => σ' = σ ∧ r = some (.int (nI (nn x F).isSome.toNat))) := by
  refine mt_X12_isFigure rfl (ev_X12_isFigure [] 100 ?_)
  refine ⟨trivial, _, r_in0 x (n := F) (by omega) (by decide) (by rw [h7, Int32.toInt_toInt64]; exact pk_sub_toInt (a := F) (b := 1) (by omega) (by decide)), fun z σ1 h01 ⟨k1, k2⟩ => ?_⟩
  exact ⟨h01, k1, k2⟩
theorem nn_m1 {n : Nat} : nn m1 n = none := by
  unfold nn
  exact if_neg (fun h => absurd h.1 (by decide))
theorem nn_b {j n : Nat} (hj : j < 2 ^ 31) (hn : n < 2 ^ 31) : nn (nI j) n = if j < n then some j else none := by
  by_cases q : j < n
  · rw [if_pos q, nn_nI q hn]
  · rw [if_neg q]
    exact nn_out hn (fun i hi e => by
      have := nI_i hj (by omega) e
      omega)
theorem okX_stp {F : Nat} {q : Option (Nat × Nat)} {x : DP} (h : ∀ k, k < F → okX x k) : ∀ k, k < F → okX (stp F q x) k := by
  intro k hk
  unfold stp
  cases q with
  | none => exact h k hk
  | some z =>
    dsimp only
    by_cases hz : z.1 < F
    · rw [if_pos hz]
      obtain ⟨h1, h2, h3⟩ := h k hk
      obtain ⟨g1, g2, g3⟩ := h z.1 hz
      by_cases e : k = z.1
      · subst e
        refine ⟨?_, ?_, ?_⟩
        · show 1 ≤ va_up _ _ _ _
          rw [up_eq]
          exact (mvD_ok g1 g2).1
        · show va_up _ _ _ _ ≤ 8
          rw [up_eq]
          exact (mvD_ok g1 g2).2
        · show va_up _ _ _ _ < 32
          rw [up_eq]
          exact mvP_ok g3
      · refine ⟨?_, ?_, ?_⟩
        · show 1 ≤ va_up _ _ _ _
          rw [up_ne e]
          exact h1
        · show va_up _ _ _ _ ≤ 8
          rw [up_ne e]
          exact h2
        · show va_up _ _ _ _ < 32
          rw [up_ne e]
          exact h3
    · rw [if_neg hz]
      exact h k hk
/-- all steps done, from what is told, some cues undone -/
def lvd (σ : qw_M) (T : TT) (C : CC) (sk : Nat → Bool) : Prop := ∀ s, s < 20 → lvs σ (tF T) s (gos (tF T) C sk (tdp T) (s + 1))
theorem lvd.fr {σ σ' : qw_M} {T : TT} {C : CC} {sk : Nat → Bool} {l fl : List Nat} (h : lvd σ T C sk) (hf : frM l fl σ σ') (h1 : 13 ∉ l) (h2 : 14 ∉ l) : lvd σ' T C sk := fun s hs => (h s hs).fr hf h1 h2
theorem r_lives {σ : qw_M} {T : TT} {C : CC} (hT : rf σ T) (hC : rc σ C) : qw_Mt qw_tw wM my_X12_lives [.ref 0] σ (fun _ σ' => frM [13, 14, 15, 16] [] σ σ' ∧ lvd σ' T C (bt ((σ 0).1 20)) ∧ dp σ' (tF T) (gos (tF T) C (bt ((σ 0).1 20)) (tdp T) 20)) := by
  have hF := hT.1.1
  generalize hu : (σ 0).1 20 = u
  generalize hQ : (fun (_ : Option Value) (σ' : qw_M) => frM [13, 14, 15, 16] [] σ σ' ∧ lvd σ' T C (bt u) ∧ dp σ' (tF T) (gos (tF T) C (bt u) (tdp T) 20)) = Q
  refine mt_X12_lives (Q := Q) rfl ?_
  have loop2 : ∀ (m j : Nat) (y : Int32) (σ' : qw_M), j + m = 20 → y = nI j → frM [13, 14, 15, 16] [] σ σ' → dp σ' (tF T) (gos (tF T) C (bt u) (tdp T) j) → (∀ s, s < j → lvs σ' (tF T) s (gos (tF T) C (bt u) (tdp T) (s + 1))) → E_X12_lives Q 48 [(0, .ref 0), (1, .int y)] [] σ' := by
    intro m
    induction m with
    | zero =>
      intro j y σ' hj hy hf hd hl
      subst hy
      have : j = 20 := by omega
      subst this
      refine ev_X12_lives [48] 100 ?_
      refine vt (Int32.le_refl _) ?_
      subst hQ
      exact ⟨hf, hl, hd⟩
    | succ m ih =>
      intro j y σ' hj hy hf hd hl
      subst hy
      have h7 : (σ' 0).1 7 = nI (tF T) := by rw [hf.2 7 (by decide)]; exact hT.2.1
      have hu' : (σ' 0).1 20 = u := by rw [hf.2 20 (by decide)]; exact hu
      have hC' := hC.fr hf (by decide) (by decide)
      obtain ⟨c1, c2⟩ := hC'.2 j (by omega)
      have at94 : ∀ (σ2 : qw_M), frM [15, 16] [] σ' σ2 → dp σ2 (tF T) (gos (tF T) C (bt u) (tdp T) (j + 1)) → E_X12_lives Q 94 [(0, .ref 0), (1, .int (nI j))] [] σ2 := fun σ2 g1 g2 => by
        refine ev_X12_lives [48] 100 ?_
        have h72 : (σ2 0).1 7 = nI (tF T) := by rw [g1.2 7 (by decide)]; exact h7
        refine ⟨trivial, _, r_keeps h72 hF g2 (s := j) (by omega), fun σ3 ⟨k1, k2, k3⟩ => ?_⟩
        refine ih (j + 1) _ _ (by omega) (nI_add j 1) ((hf.tr (frMdp g1)).tr (k1.mo (by decide) (by decide))) (g2.fr k1 (by decide) (by decide)) (fun s hs => ?_)
        by_cases q : s = j
        · rw [q]
          exact k2
        · exact k3.lvs hF q ((hl s (by omega)).fr g1 (by decide) (by decide))
      refine ev_X12_lives [94] 100 ?_
      refine vf (nnle 20 j (by omega) (by omega)) ?_
      refine And.intro (nin j 20 (by omega) (by decide)) ?_
      refine ⟨trivial, _, r_isFigure h7 hF, fun z σ1 h01 ⟨k1, k2⟩ => ?_⟩
      cases k2
      have k1 := k1.symm
      subst k1
      have ec1 : (σ' 9).1 (nI j).toNatClampNeg = cuf C j := by rw [nI_clamp (by omega)]; exact c1
      have eg : gos (tF T) C (bt u) (tdp T) (j + 1) = if bt u j then gos (tF T) C (bt u) (tdp T) j else stp (tF T) (C j) (gos (tF T) C (bt u) (tdp T) j) := rfl
      have stay : stp (tF T) (C j) (gos (tF T) C (bt u) (tdp T) j) = gos (tF T) C (bt u) (tdp T) j → E_X12_lives Q 94 [(0, .ref 0), (1, .int (nI j))] [] σ' := fun e => by
        refine at94 σ' frM.rf ?_
        rw [eg, e, ite_self]
        exact hd
      cases hCj : C j with
      | none =>
        refine vt (by rw [ec1, cuf_none hCj]; exact congrArg (fun o : Option Nat => nI o.isSome.toNat) nn_m1) ?_
        refine stay ?_
        rw [hCj]
        rfl
      | some z =>
        obtain ⟨z8, z4⟩ := hC.1 j z.1 z.2 hCj
        have e1 : cuf C j = nI z.1 := by simp only [cuf, hCj]
        have e2 : cuw C j = nI z.2 := by simp only [cuw, hCj]
        by_cases hz : z.1 < tF T
        · refine vf (by rw [ec1, e1, nn_nI hz (by omega)]; exact n10) ?_
          refine ⟨trivial, _, r_isInE (k := j) rfl (by omega), fun y2 σ1 h01 ⟨k1, k2⟩ => ?_⟩
          cases k2
          have k1 := k1.symm
          subst k1
          rw [hu']
          cases hb : bt u j with
          | true =>
            refine vnt n10 ?_
            refine at94 σ' frM.rf ?_
            rw [eg, if_pos hb]
            exact hd
          | false =>
            refine vnf rfl ?_
            refine And.intro (nin j 20 (by omega) (by decide)) ?_
            refine And.intro (nin j 20 (by omega) (by decide)) ?_
            refine ⟨trivial, _, r_goes hF hd (k := z.1) (w := z.2) (by rw [ec1, e1]) (by rw [nI_clamp (by omega), c2, e2]) hz z4, fun σ2 ⟨k1, k2⟩ => ?_⟩
            refine at94 σ2 k1 ?_
            rw [eg, hb, if_neg (by decide), hCj]
            exact k2
        · refine vt (by rw [ec1, e1, nn_b (by omega) (by omega), if_neg hz]; rfl) ?_
          refine stay ?_
          rw [hCj]
          unfold stp
          exact if_neg hz
  have loop1 : ∀ (m j : Nat) (y : Int32) (σ' : qw_M), j + m = tF T → y = nI j → frM [13, 14, 15, 16] [] σ σ' → dp σ' j (tdp T) → E_X12_lives Q 2 [(0, .ref 0), (1, .int y)] [] σ' := by
    intro m
    induction m with
    | zero =>
      intro j y σ' hj hy hf hd
      subst hy
      have h7 : (σ' 0).1 7 = nI (tF T) := by rw [hf.2 7 (by decide)]; exact hT.2.1
      refine ev_X12_lives [48] 100 ?_
      refine vt (by rw [h7]; exact nle (tF T) j (by omega) (by omega)) ?_
      have : j = tF T := by omega
      subst this
      exact loop2 20 0 _ _ rfl rfl hf hd (fun s hs => absurd hs (Nat.not_lt_zero s))
    | succ m ih =>
      intro j y σ' hj hy hf hd
      subst hy
      have h7 : (σ' 0).1 7 = nI (tF T) := by rw [hf.2 7 (by decide)]; exact hT.2.1
      obtain ⟨f1, f2, f3, f4, f5⟩ := hT.2.2 j (by omega)
      obtain ⟨o1, o2, o3, o4, o5, o6, o7⟩ := hT.1.2 j (by omega)
      have e7 : σ' 7 = σ 7 := hf.1 7 (by decide) (by decide)
      refine ev_X12_lives [2] 100 ?_
      refine vf (by rw [h7]; exact nnle (tF T) j (by omega) (by omega)) ?_
      refine And.intro (pk_in (4 * j) 32 (by omega) (pk_mul 4 j)) ?_
      refine And.intro (nin j 8 (by omega) (by decide)) ?_
      refine And.intro (pk_in (4 * j + 1) 32 (by omega) (ixm 4 j 1)) ?_
      refine And.intro (nin j 8 (by omega) (by decide)) ?_
      have ev1 : (σ' 7).1 (nI 4 * nI j).toNatClampNeg = nI (tD T j) := by rw [mxc (by omega), e7]; exact f1
      have ev2 : (qw_pi σ' 15 (nI j).toNatClampNeg ((σ' 7).1 (nI 4 * nI j).toNatClampNeg) 7).1 (nI 4 * nI j + nI 1).toNatClampNeg = nI (tP T j) := by rw [pi_off (by decide), ixc (by omega), e7]; exact f2
      refine ih (j + 1) _ _ (by omega) (nI_add j 1) (hf.tr ((frM.pi (by decide) (by decide)).tr (frM.pi (by decide) (by decide)))) (fun k hk => ?_)
      rw [ev2, ev1, nI_clamp (n := j) (by omega), pi_off (c := 15) (k := 16) (by decide), pi_at, pi_at, pi_off (c := 16) (k := 15) (by decide)]
      by_cases q : k = j
      · subst q
        rw [if_pos rfl, if_pos rfl]
        exact ⟨⟨o1, o2, o3⟩, rfl, rfl⟩
      · rw [if_neg q, if_neg q]
        exact hd k (by omega)
  refine ev_X12_lives [2] 100 ?_
  exact loop1 (tF T) 0 _ _ (by omega) rfl frM.rf (fun k hk => absurd hk (Nat.not_lt_zero k))
