/-! The reference: cues' and picture's text read; all found -/
def mtx (σ : qw_M) (t n : Nat) (B : Nat → Nat) : Prop := (σ 6).1 t = nI n ∧ ∀ i, i < n → B i < 256 ∧ (σ 5).1 (88 * t + i) = nI (B i)
theorem mtx.fr {σ σ' : qw_M} {t n : Nat} {B : Nat → Nat} {l fl : List Nat} (h : mtx σ t n B) (hf : frM l fl σ σ') (h1 : 5 ∉ l) (h2 : 6 ∉ l) : mtx σ' t n B := by
  unfold mtx
  rw [hf.1 5 h1 (by decide), hf.1 6 h2 (by decide)]
  exact h
theorem r_stills {p : Int32} {σ : qw_M} : qw_Mt qw_tw wM my_X12_stills [.ref 0, .int p] σ (fun r σ' => frM [9, 10] [] σ σ' ∧ (∀ s, s < 20 → (σ' 9).1 s = m1 ∧ (σ' 10).1 s = m1) ∧ r = some (.int p)) := by
  generalize hQ : (fun (r : Option Value) (σ' : qw_M) => frM [9, 10] [] σ σ' ∧ (∀ s, s < 20 → (σ' 9).1 s = m1 ∧ (σ' 10).1 s = m1) ∧ r = some (.int p)) = Q
  refine mt_X12_stills (Q := Q) rfl ?_
  have loop : ∀ (m j : Nat) (y : Int32) (σ' : qw_M), j + m = 20 → y = nI j → frM [9, 10] [] σ σ' → (∀ s, s < j → (σ' 9).1 s = m1 ∧ (σ' 10).1 s = m1) → E_X12_stills Q 2 [(0, .ref 0), (1, .int p), (2, .int y)] [] σ' := by
    intro m
    induction m with
    | zero =>
      intro j y σ' hj hy hf hk
      subst hy
      have : j = 20 := by omega
      subst this
      refine ev_X12_stills [2] 100 ?_
      refine vt (Int32.le_refl _) ?_
      subst hQ
      exact ⟨hf, hk, rfl⟩
    | succ m ih =>
      intro j y σ' hj hy hf hk
      subst hy
      refine ev_X12_stills [2] 100 ?_
      refine vf (nnle 20 j (by omega) (by omega)) ?_
      refine And.intro (nin j 20 (by omega) (by decide)) ?_
      refine And.intro (nin j 20 (by omega) (by decide)) ?_
      refine ih (j + 1) _ _ (by omega) (nI_add j 1) (hf.tr ((frM.pi (by decide) (by decide)).tr (frM.pi (by decide) (by decide)))) (fun s hs => ?_)
      rw [nI_clamp (n := j) (by omega), pi_off (c := 9) (k := 10) (by decide), pi_at, pi_at, pi_off (c := 10) (k := 9) (by decide)]
      by_cases q : s = j
      · rw [if_pos q, if_pos q]
        exact ⟨rfl, rfl⟩
      · rw [if_neg q, if_neg q]
        exact hk s (by omega)
  refine ev_X12_stills [2] 100 ?_
  exact loop 20 0 _ _ rfl rfl frM.rf (fun s hs => absurd hs (Nat.not_lt_zero s))
theorem rc_still {σ : qw_M} {C : CC} (h : ∀ s, s < 20 → (σ 9).1 s = m1 ∧ (σ 10).1 s = m1) (hC : ∀ s, C s = none) : rc σ C := ⟨fun s f w e => (by rw [hC s] at e; cases e), fun s hs => ⟨by rw [cuf_none (hC s)]; exact (h s hs).1, by rw [cuw_none (hC s)]; exact (h s hs).2⟩⟩
theorem cuC_none {B : Nat → Nat} {n : Nat} (h : cfa B n ≠ none) (s : Nat) : cuC B n s = none := by
  unfold cuC
  exact if_neg (fun q => h q.1)
theorem cfa_ff {B : Nat → Nat} {n p : Nat} (h : ff (cok B) n = some p) : cfa B n = some p := by
  unfold cfa
  rw [h]
theorem cfa_all {B : Nat → Nat} {n : Nat} (h : ∀ i, i < n → cok B i = true) : cfa B n = if n % 2 = 1 then some n else none := by
  unfold cfa
  rw [ff_none.mpr h]
def cinv (σ : qw_M) (B : Nat → Nat) (i : Nat) : Prop := ∀ s, s < 20 → ((2 * s < i → (σ 9).1 s = cfI (B (2 * s))) ∧ (i ≤ 2 * s → (σ 9).1 s = m1)) ∧ ((2 * s + 1 < i → (σ 10).1 s = cgI (B (2 * s)) (B (2 * s + 1))) ∧ (i ≤ 2 * s + 1 → (σ 10).1 s = m1))
theorem cok_e {B : Nat → Nat} {i : Nat} (h : i % 2 = 0) : cok B i = (decide (B i = 46) || (decide (97 ≤ B i) && decide (B i ≤ 104))) := by
  unfold cok
  exact if_pos h
theorem cok_o {B : Nat → Nat} {i : Nat} (h : ¬ i % 2 = 0) : cok B i = (if B (i - 1) = 46 then decide (B i = 46) else (way (B i)).isSome) := by
  unfold cok
  exact if_neg h
theorem rc_read {σ : qw_M} {B : Nat → Nat} {n : Nat} (hn : n ≤ 40) (hok : ∀ i, i < n → cok B i = true) (h2 : n % 2 = 0) (hi : cinv σ B n) : rc σ (cuC B n) := by
  have hc : cfa B n = none := by
    rw [cfa_all hok, if_neg (by omega)]
  refine ⟨fun s f w e => ?_, fun s hs => ?_⟩
  · unfold cuC at e
    split at e
    · rename_i q
      have k0 := hok (2 * s) (by omega)
      rw [cok_e (by omega)] at k0
      by_cases q1 : B (2 * s) = 46
      · rw [if_pos q1] at e; cases e
      · rw [if_neg q1] at e
        rw [decide_eq_false q1, Bool.false_or, Bool.and_eq_true] at k0
        have a1 := of_decide_eq_true k0.1
        have a2 := of_decide_eq_true k0.2
        cases hw : way (B (2 * s + 1)) with
        | none => rw [hw] at e; cases e
        | some w2 =>
          rw [hw] at e
          cases e
          exact ⟨by omega, way_lt hw⟩
    · cases e
  · obtain ⟨⟨i1, i2⟩, i3, i4⟩ := hi s hs
    by_cases q : s < n / 2
    · rw [i1 (by omega), i3 (by omega)]
      have k1 := hok (2 * s + 1) (by omega)
      rw [cok_o (by omega), show 2 * s + 1 - 1 = 2 * s by omega] at k1
      have e : cuC B n s = (if B (2 * s) = 46 then none else match way (B (2 * s + 1)) with
        | some w => some (B (2 * s) - 97, w)
        | none => none) := by
        unfold cuC
        exact if_pos ⟨hc, q⟩
      by_cases q1 : B (2 * s) = 46
      · rw [if_pos q1] at e
        rw [cuf_none e, cuw_none e]
        unfold cfI cgI
        rw [if_pos q1, if_pos q1]
        exact ⟨rfl, rfl⟩
      · rw [if_neg q1] at e k1
        unfold cfI cgI
        rw [if_neg q1, if_neg q1]
        cases hw : way (B (2 * s + 1)) with
        | none => rw [hw] at k1; cases k1
        | some w2 =>
          rw [hw] at e
          dsimp only at e
          simp only [cuf, cuw, e]
          exact ⟨trivial, rfl⟩
    · have e : cuC B n s = none := by
        unfold cuC
        exact if_neg (fun z => q z.2)
      rw [cuf_none e, cuw_none e, i2 (by omega), i4 (by omega)]
      exact ⟨rfl, rfl⟩
theorem in_b {b lo hi : Nat} (hb : b < 2 ^ 31) {x y : Int64} (hx : x.toInt = (lo : Int)) (hy : y.toInt = (hi : Int)) : decide (x.toInt ≤ (nI b).toInt64.toInt ∧ (nI b).toInt64.toInt ≤ y.toInt) = decide (lo ≤ b ∧ b ≤ hi) := by
  rw [hx, hy, nI_l hb, lN_toInt hb]
  exact decide_eq_decide.mpr ⟨fun h => ⟨by omega, by omega⟩, fun h => ⟨by omega, by omega⟩⟩
theorem r_readsCues {σ : qw_M} {B : Nat → Nat} {n : Nat} (hn : n ≤ 40) (ht : mtx σ 1 n B) : qw_Mt qw_tw wM my_X12_readsCues [.ref 0] σ (fun r σ' => frM [9, 10] [] σ σ' ∧ r = some (.int (obi (cfa B n))) ∧ rc σ' (cuC B n)) := by
  generalize hQ : (fun (r : Option Value) (σ' : qw_M) => frM [9, 10] [] σ σ' ∧ r = some (.int (obi (cfa B n))) ∧ rc σ' (cuC B n)) = Q
  refine mt_X12_readsCues (Q := Q) rfl ?_
  have loop : ∀ (m j : Nat) (y : Int32) (ls : qw_L) (σ' : qw_M), j + m = n → y = nI j → frM [9, 10] [] σ σ' → (∀ i, i < j → cok B i = true) → cinv σ' B j → (∀ q ∈ [(0, Value.ref 0), (1, .int (nI n)), (2, .int y)], q ∈ ls) → E_X12_readsCues Q 15 ls [] σ' := by
    intro m
    induction m with
    | zero =>
      intro j y ls σ' hj hy hf hok hi hls
      subst hy
      have : j = n := by omega
      subst this
      refine qw_Ev.sub (ev_X12_readsCues [15] 100 ?_) hls
      refine vt (Int32.le_refl _) ?_
      refine And.intro (by decide) ?_
      have er : nI j - nI j / nI 2 * nI 2 = nI (j % 2) := pk_rem (by omega) (by decide) (by decide)
      have hca := cfa_all hok
      by_cases q : j % 2 = 1
      · refine vnf (by rw [er, q]) ?_
        rw [if_pos q] at hca
        refine ⟨trivial, _, r_stills, fun z σ2 ⟨k1, k2, k3⟩ => ?_⟩
        cases k3
        subst hQ
        exact ⟨hf.tr k1, by rw [hca]; rfl, rc_still k2 (cuC_none (by rw [hca]; intro z; cases z))⟩
      · refine vnt (by rw [er]; exact nne (j % 2) 1 q (by omega) (by decide)) ?_
        rw [if_neg q] at hca
        subst hQ
        exact ⟨hf, by rw [hca]; rfl, rc_read hn hok (by omega) hi⟩
    | succ m ih =>
      intro j y ls σ' hj hy hf hok hi hls
      subst hy
      have ht' := ht.fr hf (by decide) (by decide)
      obtain ⟨b1, b2⟩ := ht'.2 j (by omega)
      obtain ⟨b, hb⟩ : ∃ b, b = B j := ⟨_, rfl⟩
      rw [← hb] at b1 b2
      have eb : (σ' 5).1 (nI 88 + nI j).toNatClampNeg = nI b := by rw [nI_add, nI_clamp (by omega)]; exact b2
      have er : nI j - nI j / nI 2 * nI 2 = nI (j % 2) := pk_rem (by omega) (by decide) (by decide)
      have ed : nI j / nI 2 = nI (j / 2) := pk_div (by omega) (by decide) (by decide)
      -- a fault
      have bad : ∀ σ2, frM [9, 10] [] σ' σ2 → (∀ s, s < 20 → (σ2 9).1 s = m1 ∧ (σ2 10).1 s = m1) → cok B j = false → Q (some (.int (nI j))) σ2 := fun σ2 g1 g2 g3 => by
        have hca := cfa_ff (ff_some (n := n) (by omega) hok g3)
        subst hQ
        exact ⟨hf.tr g1, by rw [hca]; rfl, rc_still g2 (cuC_none (by rw [hca]; intro z; cases z))⟩
      have go : ∀ (σ2 : qw_M) (ls2 : qw_L), frM [9, 10] [] σ' σ2 → cok B j = true → cinv σ2 B (j + 1) → (∀ q ∈ [(0, Value.ref 0), (1, .int (nI n)), (2, .int (nI j))], q ∈ ls2) → E_X12_readsCues Q 158 ls2 [] σ2 := fun σ2 ls2 g1 g2 g3 g4 => by
        refine qw_Ev.sub (ev_X12_readsCues [15] 100 ?_) g4
        refine ih (j + 1) _ _ _ (by omega) (nI_add j 1) (hf.tr g1) (fun i hi2 => ?_) g3 (sub_pre rfl)
        by_cases q : i = j
        · rw [q]; exact g2
        · exact hok i (by omega)
      refine qw_Ev.sub (ev_X12_readsCues [158] 100 ?_) hls
      refine vf (nnle n j (by omega) (by omega)) ?_
      refine And.intro (pk_in (88 + j) 264 (by omega) (nI_add 88 j)) ?_
      refine And.intro (by decide) ?_
      refine And.intro (by decide) ?_
      by_cases par : j % 2 = 0
      · refine vnf (by rw [er, par]; rfl) ?_
        have hck := cok_e (B := B) par
        rw [← hb] at hck
        have put : ∀ v : Int32, v = cfI b → cinv (qw_pi σ' 9 (nI j / nI 2).toNatClampNeg v) B (j + 1) := fun v hv s hs => by
          obtain ⟨⟨i1, i2⟩, i3, i4⟩ := hi s hs
          rw [ed, nI_clamp (n := j / 2) (by omega), pi_off (c := 10) (k := 9) (by decide), pi_at]
          by_cases q : s = j / 2
          · rw [if_pos q]
            refine ⟨⟨fun _ => ?_, fun z => by omega⟩, fun z => by omega, fun z => i4 (by omega)⟩
            rw [hv, hb, show 2 * s = j by omega]
          · rw [if_neg q]
            exact ⟨⟨fun z => i1 (by omega), fun z => i2 (by omega)⟩, fun z => i3 (by omega), fun z => i4 (by omega)⟩
        by_cases q : b = 46
        · refine vt (by rw [eb, q]) ?_
          refine vnf (by rw [eb, q]) ?_
          refine And.intro (pk_in (j / 2) 20 (by omega) ed) ?_
          refine go _ _ (frM.pi (by decide) (by decide)) (by rw [hck, decide_eq_true q]; rfl) (put _ ?_) (sub_pre rfl)
          unfold cfI
          rw [if_pos q]
        · refine vf (by rw [eb]; exact nne b 46 q (by omega) (by decide)) ?_
          refine ⟨trivial, _, r_inZ (z := decide (97 ≤ b ∧ b ≤ 104)) (by rw [eb]; exact in_b (by omega) (by decide) (by decide)), fun z σ1 h01 ⟨k1, k2⟩ => ?_⟩
          cases k2
          have k1 := k1.symm
          subst k1
          by_cases q2 : 97 ≤ b ∧ b ≤ 104
          · refine vnt (by rw [decide_eq_true q2]; exact n10) ?_
            refine vnt (by rw [eb]; exact nne b 46 q (by omega) (by decide)) ?_
            refine And.intro (pk_in (j / 2) 20 (by omega) ed) ?_
            refine go _ _ (frM.pi (by decide) (by decide)) (by rw [hck, decide_eq_true q2.1, decide_eq_true q2.2, Bool.and_true, Bool.or_true]) (put _ ?_) (sub_pre rfl)
            unfold cfI
            rw [if_neg q, eb]
            exact pk_sub (a := b) (b := 97) (by omega)
          · refine vnf (by rw [decide_eq_false q2]; rfl) ?_
            refine ⟨trivial, _, r_stills, fun z σ2 ⟨k1, k2, k3⟩ => ?_⟩
            cases k3
            refine bad σ2 k1 k2 ?_
            rw [hck, decide_eq_false q, Bool.false_or]
            by_cases q3 : 97 ≤ b
            · rw [decide_eq_false (p := b ≤ 104) (fun z => q2 ⟨q3, z⟩), Bool.and_false]
            · rw [decide_eq_false q3, Bool.false_and]
      · refine vnt (by rw [er]; exact nI_ne0 (by omega) (by omega)) ?_
        have hck := cok_o (B := B) par
        rw [← hb] at hck
        refine And.intro (pk_in (j / 2) 20 (by omega) ed) ?_
        have hw : (σ' 9).1 (nI j / nI 2).toNatClampNeg = cfI (B (j - 1)) := by
          rw [ed, nI_clamp (n := j / 2) (by omega), (hi (j / 2) (by omega)).1.1 (by omega), show 2 * (j / 2) = j - 1 by omega]
        have put : ∀ v : Int32, v = cgI (B (j - 1)) b → cinv (qw_pi σ' 10 (nI j / nI 2).toNatClampNeg v) B (j + 1) := fun v hv s hs => by
          obtain ⟨⟨i1, i2⟩, i3, i4⟩ := hi s hs
          rw [ed, nI_clamp (n := j / 2) (by omega), pi_off (c := 9) (k := 10) (by decide), pi_at]
          by_cases q : s = j / 2
          · rw [if_pos q]
            refine ⟨⟨fun _ => i1 (by omega), fun z => by omega⟩, fun z => ?_, fun z => by omega⟩
            rw [hv, hb, show j - 1 = 2 * s by omega, show j = 2 * s + 1 by omega]
          · rw [if_neg q]
            exact ⟨⟨fun z => i1 (by omega), fun z => i2 (by omega)⟩, fun z => i3 (by omega), fun z => i4 (by omega)⟩
        by_cases q : B (j - 1) = 46
        · rw [if_pos q] at hck
          refine vnf (by rw [hw]; unfold cfI; rw [if_pos q]) ?_
          refine vf n10 ?_
          by_cases q2 : b = 46
          · refine vt (by rw [eb, q2]) ?_
            refine vf n10 ?_
            refine And.intro (pk_in (j / 2) 20 (by omega) ed) ?_
            refine go _ _ (frM.pi (by decide) (by decide)) (by rw [hck, decide_eq_true q2]) (put _ ?_) (sub_pre rfl)
            unfold cgI
            rw [if_pos q]
          · refine vf (by rw [eb]; exact nne b 46 q2 (by omega) (by decide)) ?_
            refine ⟨trivial, _, r_stills, fun z σ2 ⟨k1, k2, k3⟩ => ?_⟩
            cases k3
            exact bad σ2 k1 k2 (by rw [hck, decide_eq_false q2])
        · rw [if_neg q] at hck
          have hk0 := hok (j - 1) (by omega)
          rw [cok_e (by omega), decide_eq_false q, Bool.false_or, Bool.and_eq_true] at hk0
          have a1 := of_decide_eq_true hk0.1
          have a2 := of_decide_eq_true hk0.2
          refine vnt (by rw [hw]; unfold cfI; rw [if_neg q]; exact nI_m1 (by omega)) ?_
          refine vt rfl ?_
          have hway : ∀ {σ : qw_M}, qw_Mt qw_tw wM my_X12_wayOf [.int ((σ' 5).1 (nI 88 + nI j).toNatClampNeg)] σ (fun r σ' => σ' = σ ∧ r = some (.int (match way b with | some w => nI w | none => wrong))) := by
            intro σ
            rw [eb]
            exact r_wayOf b1
          refine ⟨trivial, _, hway, fun z σ1 ⟨k1, k2⟩ => ?_⟩
          cases k2
          have k1 := k1.symm
          subst k1
          cases hwb : way b with
          | none =>
            refine vnf rfl ?_
            refine ⟨trivial, _, r_stills, fun z σ2 ⟨k1, k2, k3⟩ => ?_⟩
            cases k3
            exact bad σ2 k1 k2 (by rw [hck, hwb]; rfl)
          | some w =>
            have hw4 := way_lt hwb
            refine vnt (fun z => ?_) ?_
            · have e := congrArg Int32.toInt (show nI w = wrong from z)
              rw [nI_toInt (by omega)] at e
              have e9 : wrong.toInt = -9 := by decide
              omega
            · refine vt rfl ?_
              refine ⟨trivial, _, hway, fun z σ1 ⟨k1, k2⟩ => ?_⟩
              cases k2
              have k1 := k1.symm
              subst k1
              refine And.intro (pk_in (j / 2) 20 (by omega) ed) ?_
              refine go _ _ (frM.pi (by decide) (by decide)) (by rw [hck, hwb]; rfl) (put _ ?_) (sub_pre rfl)
              unfold cgI
              rw [if_neg q, hwb]
              rfl
  refine ev_X12_readsCues [15] 100 ?_
  refine ⟨trivial, _, r_stills, fun z σ2 ⟨k1, k2, k3⟩ => ?_⟩
  refine And.intro (nin 1 3 (by decide) (by decide)) ?_
  have e6 : (σ2 6).1 (nI 1).toNatClampNeg = nI n := by rw [k1.1 6 (by decide) (by decide)]; exact ht.1
  show E_X12_readsCues Q 15 [(0, .ref 0), (1, .int ((σ2 6).1 (nI 1).toNatClampNeg)), (2, .int (nI 0))] [] σ2
  rw [e6]
  exact loop n 0 _ _ _ (by omega) rfl k1 (fun i hi => absurd hi (Nat.not_lt_zero i)) (fun s hs => ⟨⟨fun z => by omega, fun _ => (k2 s hs).1⟩, fun z => by omega, fun _ => (k2 s hs).2⟩) (sub_pre rfl)
theorem r_blank {p : Int32} {σ : qw_M} : qw_Mt qw_tw wM my_X12_blank [.ref 0, .int p] σ (fun r σ' => frM [11] [] σ σ' ∧ (∀ s, s < 32 → (σ' 11).1 s = m1) ∧ r = some (.int p)) := by
  generalize hQ : (fun (r : Option Value) (σ' : qw_M) => frM [11] [] σ σ' ∧ (∀ s, s < 32 → (σ' 11).1 s = m1) ∧ r = some (.int p)) = Q
  refine mt_X12_blank (Q := Q) rfl ?_
  have loop : ∀ (m j : Nat) (y : Int32) (σ' : qw_M), j + m = 32 → y = nI j → frM [11] [] σ σ' → (∀ s, s < j → (σ' 11).1 s = m1) → E_X12_blank Q 2 [(0, .ref 0), (1, .int p), (2, .int y)] [] σ' := by
    intro m
    induction m with
    | zero =>
      intro j y σ' hj hy hf hk
      subst hy
      have : j = 32 := by omega
      subst this
      refine ev_X12_blank [2] 100 ?_
      refine vt (Int32.le_refl _) ?_
      subst hQ
      exact ⟨hf, hk, rfl⟩
    | succ m ih =>
      intro j y σ' hj hy hf hk
      subst hy
      refine ev_X12_blank [2] 100 ?_
      refine vf (nnle 32 j (by omega) (by omega)) ?_
      refine And.intro (nin j 32 (by omega) (by decide)) ?_
      refine ih (j + 1) _ _ (by omega) (nI_add j 1) (hf.tr (frM.pi (by decide) (by decide))) (fun s hs => ?_)
      rw [nI_clamp (n := j) (by omega), pi_at]
      by_cases q : s = j
      · rw [if_pos q]
      · rw [if_neg q]
        exact hk s (by omega)
  refine ev_X12_blank [2] 100 ?_
  exact loop 32 0 _ _ rfl rfl frM.rf (fun s hs => absurd hs (Nat.not_lt_zero s))
def pcI (b : Nat) : Int32 := if b = 46 then m1 else nI (b - 48)
theorem r_readsPicture {σ : qw_M} {B : Nat → Nat} {n : Nat} (hn : n ≤ 32) (ht : mtx σ 2 n B) : qw_Mt qw_tw wM my_X12_readsPicture [.ref 0] σ (fun r σ' => frM [11] [] σ σ' ∧ r = some (.int (obi (pfB B n))) ∧ rp σ' (piP B n)) := by
  generalize hQ : (fun (r : Option Value) (σ' : qw_M) => frM [11] [] σ σ' ∧ r = some (.int (obi (pfB B n))) ∧ rp σ' (piP B n)) = Q
  refine mt_X12_readsPicture (Q := Q) rfl ?_
  have loop : ∀ (m j : Nat) (y : Int32) (ls : qw_L) (σ' : qw_M), j + m = n → y = nI j → frM [11] [] σ σ' → (∀ i, i < j → pok B i = true) → (∀ c, c < 32 → (σ' 11).1 c = if c < j then pcI (B c) else m1) → (∀ q ∈ [(0, Value.ref 0), (1, .int y)], q ∈ ls) → E_X12_readsPicture Q 8 ls [] σ' := by
    intro m
    induction m with
    | zero =>
      intro j y ls σ' hj hy hf hok hi hls
      subst hy
      have : j = n := by omega
      subst this
      have ht' := ht.fr hf (by decide) (by decide)
      refine qw_Ev.sub (ev_X12_readsPicture [8] 100 ?_) hls
      refine And.intro (nin 2 3 (by decide) (by decide)) ?_
      refine vt (by rw [show (nI 2).toNatClampNeg = 2 from rfl, ht'.1]; exact Int32.le_refl _) ?_
      have hp : pfB B j = none := by unfold pfB; exact ff_none.mpr hok
      subst hQ
      refine ⟨hf, by rw [hp]; rfl, fun c hc => ?_⟩
      rw [hi c hc]
      by_cases q : c < j
      · rw [if_pos q]
        have hk := hok c q
        unfold pok at hk
        unfold pcI
        by_cases q1 : B c = 46
        · have e : piP B j c = none := by unfold piP; exact if_neg (fun z => z.2.2 q1)
          rw [if_pos q1, e]
          exact ⟨rfl, fun v z => by cases z⟩
        · have e : piP B j c = some (B c - 48) := by unfold piP; exact if_pos ⟨hp, q, q1⟩
          rw [decide_eq_false q1, Bool.false_or, Bool.and_eq_true] at hk
          have a1 := of_decide_eq_true hk.1
          have a2 := of_decide_eq_true hk.2
          rw [if_neg q1, e]
          exact ⟨rfl, fun v z => by cases z; omega⟩
      · have e : piP B j c = none := by unfold piP; exact if_neg (fun z => q z.2.1)
        rw [if_neg q, e]
        exact ⟨rfl, fun v z => by cases z⟩
    | succ m ih =>
      intro j y ls σ' hj hy hf hok hi hls
      subst hy
      have ht' := ht.fr hf (by decide) (by decide)
      obtain ⟨b1, b2⟩ := ht'.2 j (by omega)
      obtain ⟨b, hb⟩ : ∃ b, b = B j := ⟨_, rfl⟩
      rw [← hb] at b1 b2
      have eb : (σ' 5).1 (nI 176 + nI j).toNatClampNeg = nI b := by rw [nI_add, nI_clamp (by omega)]; exact b2
      have hck : pok B j = (decide (b = 46) || (decide (48 ≤ b) && decide (b ≤ 55))) := by rw [hb]; rfl
      have go : ∀ (v : Int32), v = pcI b → pok B j = true → ∀ ls2 : qw_L, (∀ q ∈ [(0, Value.ref 0), (1, .int (nI j))], q ∈ ls2) → E_X12_readsPicture Q 75 ls2 [] (qw_pi σ' 11 (nI j).toNatClampNeg v) := fun v g1 g2 ls2 g3 => by
        refine qw_Ev.sub (ev_X12_readsPicture [8] 100 ?_) g3
        refine ih (j + 1) _ _ _ (by omega) (nI_add j 1) (hf.tr (frM.pi (by decide) (by decide))) (fun i hi2 => ?_) (fun c hc => ?_) (sub_pre rfl)
        · by_cases q : i = j
          · rw [q]; exact g2
          · exact hok i (by omega)
        · rw [nI_clamp (n := j) (by omega), pi_at]
          by_cases q : c = j
          · rw [if_pos q, if_pos (by omega), g1, hb, q]
          · rw [if_neg q, hi c hc]
            by_cases q2 : c < j
            · rw [if_pos q2, if_pos (by omega)]
            · rw [if_neg q2, if_neg (by omega)]
      refine qw_Ev.sub (ev_X12_readsPicture [75] 100 ?_) hls
      refine And.intro (nin 2 3 (by decide) (by decide)) ?_
      refine vf (by rw [show (nI 2).toNatClampNeg = 2 from rfl, ht'.1]; exact nnle n j (by omega) (by omega)) ?_
      refine And.intro (pk_in (176 + j) 264 (by omega) (nI_add 176 j)) ?_
      by_cases q : b = 46
      · refine vt (by rw [eb, q]) ?_
        refine vnf (by rw [eb, q]) ?_
        refine And.intro (nin j 32 (by omega) (by decide)) ?_
        refine go _ ?_ (by rw [hck, decide_eq_true q]; rfl) _ (sub_pre rfl)
        unfold pcI
        rw [if_pos q]
      · refine vf (by rw [eb]; exact nne b 46 q (by omega) (by decide)) ?_
        refine ⟨trivial, _, r_inZ (z := decide (48 ≤ b ∧ b ≤ 55)) (by rw [eb]; exact in_b (by omega) (by decide) (by decide)), fun z σ1 h01 ⟨k1, k2⟩ => ?_⟩
        cases k2
        have k1 := k1.symm
        subst k1
        by_cases q2 : 48 ≤ b ∧ b ≤ 55
        · refine vnt (by rw [decide_eq_true q2]; exact n10) ?_
          refine vnt (by rw [eb]; exact nne b 46 q (by omega) (by decide)) ?_
          refine And.intro (nin j 32 (by omega) (by decide)) ?_
          refine go _ ?_ (by rw [hck, decide_eq_true q2.1, decide_eq_true q2.2, Bool.and_true, Bool.or_true]) _ (sub_pre rfl)
          unfold pcI
          rw [if_neg q, eb]
          exact pk_sub (a := b) (b := 48) (by omega)
        · refine vnf (by rw [decide_eq_false q2]; rfl) ?_
          refine ⟨trivial, _, r_blank, fun z σ2 ⟨k1, k2, k3⟩ => ?_⟩
          cases k3
          have hno : pok B j = false := by
            rw [hck, decide_eq_false q, Bool.false_or]
            by_cases q3 : 48 ≤ b
            · rw [decide_eq_false (p := b ≤ 55) (fun z => q2 ⟨q3, z⟩), Bool.and_false]
            · rw [decide_eq_false q3, Bool.false_and]
          have hp : pfB B n = some j := ff_some (by omega) hok hno
          subst hQ
          refine ⟨hf.tr k1, by rw [hp]; rfl, fun c hc => ?_⟩
          have e : piP B n c = none := by unfold piP; exact if_neg (fun z => by rw [hp] at z; cases z.1)
          rw [e]
          exact ⟨k2 c hc, fun v z => by cases z⟩
  refine ev_X12_readsPicture [8] 100 ?_
  refine ⟨trivial, _, r_blank, fun z σ2 ⟨k1, k2, k3⟩ => ?_⟩
  exact loop n 0 _ _ _ (by omega) rfl k1 (fun i hi => absurd hi (Nat.not_lt_zero i)) (fun c hc => by rw [k2 c hc, if_neg (by omega)]) (sub_pre rfl)
