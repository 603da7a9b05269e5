/-! The figures' text -/
/-- what a byte of a figure is -/
def tk (T : TT) (k b : Nat) : Option TT :=
  if tF T < 8 then
    if k = 0 then (if 49 ≤ b ∧ b ≤ 56 then some (tF T, va_up (tD T) (tF T) (b - 48), tP T, tC T, va_up (tM T) (tF T) 0, va_up (tK T) (tF T) 0) else none)
    else if k = 1 then (if 48 ≤ b ∧ b ≤ 51 then some (tF T, tD T, va_up (tP T) (tF T) (10 * (b - 48)), tC T, tM T, tK T) else none)
    else if k = 2 then (if 48 ≤ b ∧ b ≤ 57 ∧ tP T (tF T) + (b - 48) < 32 then some (tF T, tD T, va_up (tP T) (tF T) (tP T (tF T) + (b - 48)), tC T, tM T, tK T) else none)
    else if k = 3 then (match kol b with
      | some c => some (tF T, tD T, tP T, va_up (tC T) (tF T) c, tM T, tK T)
      | none => none)
    else if tM T (tF T) < 6 ∧ (b = 35 ∨ b = 46) then some (tF T, tD T, tP T, tC T, va_up (tM T) (tF T) (tM T (tF T) + 1), va_up (tK T) (tF T) (if b = 35 then tK T (tF T) ||| 2 ^ tM T (tF T) else tK T (tF T))) else none
  else none
/-- the rows behind some bytes -/
def trl (σ : qw_M) (T : TT) (k : Nat) : Prop := ∀ f, f < 8 → (f < tF T ∨ (f = tF T ∧ 1 ≤ k) → (σ 9).1 f = nI (tD T f) ∧ (σ 12).1 f = nI (tM T f) ∧ (σ 13).1 f = nI (tK T f)) ∧ (f < tF T ∨ (f = tF T ∧ 2 ≤ k) → (σ 10).1 f = nI (tP T f)) ∧ (f < tF T ∨ (f = tF T ∧ 4 ≤ k) → (σ 11).1 f = nI (tC T f))
def okf (T : TT) (f : Nat) : Prop := 1 ≤ tD T f ∧ tD T f ≤ 8 ∧ tP T f < 32 ∧ tC T f < 4 ∧ 1 ≤ tM T f ∧ tM T f ≤ 6 ∧ tK T f < 2 ^ tM T f
def twf (T : TT) (k : Nat) : Prop := tF T ≤ 8 ∧ (0 < k → tF T < 8) ∧ k ≤ 10 ∧ (∀ f, f < tF T → okf T f) ∧ (1 ≤ k → 1 ≤ tD T (tF T) ∧ tD T (tF T) ≤ 8 ∧ tM T (tF T) = k - 4 ∧ tK T (tF T) < 2 ^ (k - 4)) ∧ (2 ≤ k → tP T (tF T) < 32) ∧ (4 ≤ k → tC T (tF T) < 4)
theorem twf_tk {T T2 : TT} {k b : Nat} (hw : twf T k) (h : tk T k b = some T2) : twf T2 (k + 1) ∧ tF T2 = tF T := by
  obtain ⟨F, D, P, C, M, K⟩ := T
  dsimp only [twf, tk, okf, tF, tD, tP, tC, tM, tK] at hw h
  obtain ⟨w1, w2, w3, w4, w5, w6, w7⟩ := hw
  split at h
  · rename_i hF
    split at h
    · rename_i hk
      subst hk
      split at h
      · rename_i hb
        cases h
        refine ⟨⟨w1, fun _ => hF, by omega, fun f hf => ?_, fun _ => ?_, fun h => by omega, fun h => by omega⟩, rfl⟩
        · obtain ⟨a1, a2, a3, a4, a5, a6, a7⟩ := w4 f hf
          dsimp only [okf, tF, tD, tP, tC, tM, tK]
          have hf : f < F := hf
          rw [up_ne (by omega), up_ne (by omega), up_ne (by omega)]
          exact ⟨a1, a2, a3, a4, a5, a6, a7⟩
        · dsimp only [tF, tD, tP, tC, tM, tK]
          rw [up_eq, up_eq, up_eq]
          exact ⟨by omega, by omega, rfl, by decide⟩
      · cases h
    · split at h
      · rename_i hk0 hk
        subst hk
        split at h
        · rename_i hb
          cases h
          refine ⟨⟨w1, fun _ => hF, by omega, fun f hf => ?_, fun _ => w5 (by omega), fun h => ?_, fun h => by omega⟩, rfl⟩
          · obtain ⟨a1, a2, a3, a4, a5, a6, a7⟩ := w4 f hf
            dsimp only [okf, tF, tD, tP, tC, tM, tK]
            have hf : f < F := hf
            rw [up_ne (by omega)]
            exact ⟨a1, a2, a3, a4, a5, a6, a7⟩
          · dsimp only [tF, tD, tP, tC, tM, tK]
            rw [up_eq]
            omega
        · cases h
      · split at h
        · rename_i hk0 hk1 hk
          subst hk
          split at h
          · rename_i hb
            cases h
            refine ⟨⟨w1, fun _ => hF, by omega, fun f hf => ?_, fun _ => w5 (by omega), fun h => ?_, fun h => by omega⟩, rfl⟩
            · obtain ⟨a1, a2, a3, a4, a5, a6, a7⟩ := w4 f hf
              dsimp only [okf, tF, tD, tP, tC, tM, tK]
              have hf : f < F := hf
              rw [up_ne (by omega)]
              exact ⟨a1, a2, a3, a4, a5, a6, a7⟩
            · dsimp only [tF, tD, tP, tC, tM, tK]
              rw [up_eq]
              omega
          · cases h
        · split at h
          · rename_i hk0 hk1 hk2 hk
            subst hk
            cases hc : kol b with
            | none => rw [hc] at h; cases h
            | some c =>
              rw [hc] at h
              cases h
              have := kol_lt hc
              refine ⟨⟨w1, fun _ => hF, by omega, fun f hf => ?_, fun _ => w5 (by omega), fun h => w6 (by omega), fun h => ?_⟩, rfl⟩
              · obtain ⟨a1, a2, a3, a4, a5, a6, a7⟩ := w4 f hf
                dsimp only [okf, tF, tD, tP, tC, tM, tK]
                have hf : f < F := hf
                rw [up_ne (by omega)]
                exact ⟨a1, a2, a3, a4, a5, a6, a7⟩
              · dsimp only [tF, tD, tP, tC, tM, tK]
                rw [up_eq]
                exact this
          · rename_i hk0 hk1 hk2 hk3
            split at h
            · rename_i hb
              cases h
              obtain ⟨b1, b2, b3, b4⟩ := w5 (by omega)
              refine ⟨⟨w1, fun _ => hF, by omega, fun f hf => ?_, fun _ => ?_, fun h => w6 (by omega), fun h => w7 (by omega)⟩, rfl⟩
              · obtain ⟨a1, a2, a3, a4, a5, a6, a7⟩ := w4 f hf
                dsimp only [okf, tF, tD, tP, tC, tM, tK]
                have hf : f < F := hf
                rw [up_ne (by omega), up_ne (by omega)]
                exact ⟨a1, a2, a3, a4, a5, a6, a7⟩
              · dsimp only [tF, tD, tP, tC, tM, tK]
                rw [up_eq, up_eq]
                refine ⟨b1, b2, by omega, ?_⟩
                rw [b3, show k + 1 - 4 = (k - 4) + 1 by omega]
                have h2 : 2 ^ (k - 4) < 2 ^ (k - 4 + 1) := Nat.pow_lt_pow_right (by omega) (by omega)
                split
                · exact Nat.or_lt_two_pow (by omega) h2
                · omega
            · cases h
  · cases h
theorem m_takesMark {σ : qw_M} {T : TT} {k b : Nat} (hw : twf T k) (hr : trl σ T k) (hF : tF T < 8) (hk : 4 ≤ k) (hb : b < 256) : qw_Mt qw_tw wC my_X9_takesMark [.ref 8, .int (nI (tF T)), .int (nI b)] σ (fun r σ' => fr [9, 10, 11, 12, 13] σ σ' ∧ ((∃ T2, tk T k b = some T2 ∧ trl σ' T2 (k + 1) ∧ r = some (.int (nI 1))) ∨ (tk T k b = none ∧ r = some (.int (nI 0))))) := by
  obtain ⟨F, D, P, C, M, K⟩ := T
  dsimp only [twf, trl, okf, tF, tD, tP, tC, tM, tK] at hw hr hF
  show qw_Mt qw_tw wC my_X9_takesMark [.ref 8, .int (nI F), .int (nI b)] σ (fun r σ' => fr [9, 10, 11, 12, 13] σ σ' ∧ ((∃ T2, tk (F, D, P, C, M, K) k b = some T2 ∧ trl σ' T2 (k + 1) ∧ r = some (.int (nI 1))) ∨ (tk (F, D, P, C, M, K) k b = none ∧ r = some (.int (nI 0)))))
  obtain ⟨w1, w2, w3, w4, w5, w6, w7⟩ := hw
  obtain ⟨b1, b2, b3, b4⟩ := w5 (by omega)
  obtain ⟨r1, r2, r3⟩ := (hr (F) hF).1 (Or.inr ⟨rfl, by omega⟩)
  have htk : tk (F, D, P, C, M, K) k b = (if M (F) < 6 ∧ (b = 35 ∨ b = 46) then some (F, D, P, C, va_up (M) (F) (M (F) + 1), va_up (K) (F) (if b = 35 then K (F) ||| 2 ^ M (F) else K (F))) else none) := by
    dsimp only [tk, tF, tD, tP, tC, tM, tK]
    rw [if_pos hF, if_neg (by omega), if_neg (by omega), if_neg (by omega), if_neg (by omega)]
  generalize hQ : (fun (r : Option Value) (σ' : qw_M) => fr [9, 10, 11, 12, 13] σ σ' ∧ ((∃ T2, tk (F, D, P, C, M, K) k b = some T2 ∧ trl σ' T2 (k + 1) ∧ r = some (.int (nI 1))) ∨ (tk (F, D, P, C, M, K) k b = none ∧ r = some (.int (nI 0))))) = Q
  refine mt_X9_takesMark (Q := Q) rfl (ev_X9_takesMark [25, 48] 100 ?_)
  refine And.intro (nin (F) 8 hF (by omega)) ?_
  rw [nI_clamp (n := F) (by omega), r2]
  have bad : tk (F, D, P, C, M, K) k b = none → Q (some (.int (nI 0))) σ := fun h => by
    subst hQ
    exact ⟨fr.rf, Or.inr ⟨h, rfl⟩⟩
  by_cases c1 : 6 ≤ M (F)
  · refine vt (nle 6 (M (F)) c1 (by omega)) ?_
    exact ⟨Or.inl rfl, bad (by rw [htk, if_neg (by omega)])⟩
  · refine vf (nnle 6 (M (F)) (by omega) (by omega)) ?_
    -- the end
    have fin : ∀ (σ2 : qw_M) (v : Nat), fr [13] σ σ2 → (σ2 13).1 (F) = nI v → (∀ f, f ≠ F → (σ2 13).1 f = (σ 13).1 f) → v = (if b = 35 then K (F) ||| 2 ^ M (F) else K (F)) → b = 35 ∨ b = 46 → E_X9_takesMark Q 48 [(0, .ref 8), (1, .int (nI (F))), (2, .int (nI b))] [] σ2 := fun σ2 v f2 g1 g2 g3 g4 => by
      have e12 : (σ2 12).1 (F) = nI (M (F)) := by rw [f2 12 (by decide)]; exact r2
      refine ev_X9_takesMark [] 100 ?_
      refine And.intro (nin (F) 8 hF (by omega)) ?_
      refine And.intro (nin (F) 8 hF (by omega)) ?_
      rw [nI_clamp (n := F) (by omega), e12]
      subst hQ
      refine ⟨Or.inr rfl, (f2.mo (by decide)).tr (fr.pi (by decide)), Or.inl ⟨_, by rw [htk, if_pos ⟨by omega, g4⟩], fun f hf => ⟨fun h => ?_, fun h => ?_, fun h => ?_⟩, rfl⟩⟩
      · have h : f < F ∨ f = F ∧ 1 ≤ k + 1 := h
        dsimp only [tF, tD, tP, tC, tM, tK]
        rw [pi_off (c := 9) (k := 12) (by decide), pi_off (c := 13) (k := 12) (by decide), f2 9 (by decide), pi_at, f2 12 (by decide)]
        by_cases q : f = F
        · subst q
          rw [if_pos rfl, up_eq, up_eq, g1, g3]
          exact ⟨r1, nI_add _ 1, rfl⟩
        · rw [if_neg q, up_ne q, up_ne q, g2 f q]
          exact (hr f hf).1 (Or.inl (by omega))
      · have h : f < F ∨ f = F ∧ 2 ≤ k + 1 := h
        rw [pi_off (c := 10) (k := 12) (by decide), f2 10 (by decide)]
        exact (hr f hf).2.1 (by omega)
      · have h : f < F ∨ f = F ∧ 4 ≤ k + 1 := h
        rw [pi_off (c := 11) (k := 12) (by decide), f2 11 (by decide)]
        exact (hr f hf).2.2 (by omega)
    have mid : b = 35 ∨ b = 46 → E_X9_takesMark Q 25 [(0, .ref 8), (1, .int (nI (F))), (2, .int (nI b))] [] σ := fun hbb => by
      refine ev_X9_takesMark [48] 100 ?_
      by_cases q : b = 35
      · refine vnf (by rw [q]) ?_
        refine And.intro (nin (F) 8 hF (by omega)) ?_
        refine And.intro (nin (F) 8 hF (by omega)) ?_
        refine And.intro (nin (F) 8 hF (by omega)) ?_
        rw [nI_clamp (n := F) (by omega), r3, r2]
        have ee : nI (K (F)) ||| nI 1 <<< (nI (M (F)) &&& 31) = nI (K (F) ||| 2 ^ M (F)) := by
          apply b_ext
          intro i hi
          rw [b_or, bt_shl1 (by omega) hi, bt_nI hi, bt_nI hi, Nat.testBit_or, Nat.testBit_two_pow]
          congr 1
          by_cases q : i = M (F)
          · simp [q]
          · simp [q]; omega
        rw [ee]
        exact fin _ _ (fr.pi (by decide)) pi_eq (fun f hf => pi_ne hf) (by rw [if_pos q]) hbb
      · refine vnt (nne b 35 q (by omega) (by omega)) ?_
        exact fin σ _ fr.rf r3 (fun _ _ => rfl) (by rw [if_neg q]) hbb
    by_cases q : b = 35
    · refine vt (by rw [q]) ?_
      exact mid (Or.inl q)
    · refine vf (nne b 35 q (by omega) (by omega)) ?_
      by_cases q2 : b = 46
      · refine vt (by rw [q2]) ?_
        exact mid (Or.inr q2)
      · refine vf (nne b 46 q2 (by omega) (by omega)) ?_
        exact ⟨Or.inl rfl, bad (by rw [htk, if_neg (by omega)])⟩
theorem m_takes {σ : qw_M} {T : TT} {k b : Nat} (hw : twf T k) (hr : trl σ T k) (hb : b < 256) : qw_Mt qw_tw wC my_X9_takes [.ref 8, .int (nI (tF T)), .int (nI k), .int (nI b)] σ (fun r σ' => fr [9, 10, 11, 12, 13] σ σ' ∧ ((∃ T2, tk T k b = some T2 ∧ trl σ' T2 (k + 1) ∧ r = some (.int (nI 1))) ∨ (tk T k b = none ∧ r = some (.int (nI 0))))) := by
  have hw0 := hw
  have hr0 := hr
  obtain ⟨F, D, P, C, M, K⟩ := T
  dsimp only [twf, trl, okf, tF, tD, tP, tC, tM, tK] at hw hr
  show qw_Mt qw_tw wC my_X9_takes [.ref 8, .int (nI F), .int (nI k), .int (nI b)] σ (fun r σ' => fr [9, 10, 11, 12, 13] σ σ' ∧ ((∃ T2, tk (F, D, P, C, M, K) k b = some T2 ∧ trl σ' T2 (k + 1) ∧ r = some (.int (nI 1))) ∨ (tk (F, D, P, C, M, K) k b = none ∧ r = some (.int (nI 0)))))
  obtain ⟨w1, w2, w3, w4, w5, w6, w7⟩ := hw
  generalize hQ : (fun (r : Option Value) (σ' : qw_M) => fr [9, 10, 11, 12, 13] σ σ' ∧ ((∃ T2, tk (F, D, P, C, M, K) k b = some T2 ∧ trl σ' T2 (k + 1) ∧ r = some (.int (nI 1))) ∨ (tk (F, D, P, C, M, K) k b = none ∧ r = some (.int (nI 0))))) = Q
  refine mt_X9_takes (Q := Q) rfl (ev_X9_takes [12] 100 ?_)
  refine vf (nnlt F 0 (by omega) (by omega)) ?_
  by_cases hF : F < 8
  · refine vt (nlt F 8 hF (by omega)) ?_
    have t0 : (nI k).toInt = (k : Int) := nI_toInt (by omega)
    have bad : ∀ σ2, fr [9, 10, 11, 12, 13] σ σ2 → tk (F, D, P, C, M, K) k b = none → Q (some (.int (nI 0))) σ2 := fun σ2 h1 h2 => by
      subst hQ
      exact ⟨h1, Or.inr ⟨h2, rfl⟩⟩
    have good : ∀ σ2 T2, fr [9, 10, 11, 12, 13] σ σ2 → tk (F, D, P, C, M, K) k b = some T2 → trl σ2 T2 (k + 1) → Q (some (.int (nI 1))) σ2 := fun σ2 T2 h1 h2 h3 => by
      subst hQ
      exact ⟨h1, Or.inl ⟨T2, h2, h3, rfl⟩⟩
    refine ev_X9_takes [44, 86, 117, 159, 187] 100 ?_
    refine And.intro (fun hc => ?_) (And.intro (by decide) (And.intro (fun e0 => ?_) (And.intro (fun e1 => ?_) (And.intro (fun e2 => ?_) (And.intro (fun e3 => ?_) trivial)))))
    · rw [t0] at hc
      have hk : 4 ≤ k := by
        rcases hc with hc | hc
        · exact absurd hc (by have : (0 : Int) ≤ (k : Int) := by omega
                              exact Int.not_lt.mpr this)
        · have hc : (3 : Int) < (k : Int) := hc
          omega
      refine ev_X9_takes [] 100 ?_
      refine ⟨trivial, _, m_takesMark hw0 hr0 hF hk hb, fun z σ2 h01 ⟨f2, k2⟩ => ?_⟩
      subst hQ
      exact ⟨h01, f2, k2⟩
    · rw [t0] at e0
      have hk : k = 0 := by
        have e0 : (k : Int) = 0 := e0
        omega
      subst hk
      have htk : tk (F, D, P, C, M, K) 0 b = (if 49 ≤ b ∧ b ≤ 56 then some (F, va_up D F (b - 48), P, C, va_up M F 0, va_up K F 0) else none) := by
        dsimp only [tk, tF, tD, tP, tC, tM, tK]
        rw [if_pos hF, if_pos rfl]
      refine ev_X9_takes [68, 85] 100 ?_
      refine And.intro (nin F 8 hF (by omega)) ?_
      refine And.intro (nin F 8 hF (by omega)) ?_
      refine And.intro (nin F 8 hF (by omega)) ?_
      rw [nI_clamp (n := F) (by omega)]
      refine ev_X9_takes [85] 100 ?_
      have fA : ∀ v : Int32, fr [9, 10, 11, 12, 13] σ (qw_pi (qw_pi (qw_pi σ 9 F v) 12 F (nI 0)) 13 F (nI 0)) := fun v => ((fr.pi (by decide)).tr (fr.pi (by decide))).tr (fr.pi (by decide))
      by_cases q1 : b < 49
      · refine vt (nlt b 49 q1 (by omega)) ?_
        refine ev_X9_takes [] 100 ?_
        exact ⟨Or.inl rfl, bad _ (fA _) (by rw [htk, if_neg (by omega)])⟩
      · refine vf (nnlt b 49 (by omega) (by omega)) ?_
        by_cases q2 : 56 < b
        · refine vt (nlt 56 b q2 (by omega)) ?_
          refine ev_X9_takes [] 100 ?_
          exact ⟨Or.inl rfl, bad _ (fA _) (by rw [htk, if_neg (by omega)])⟩
        · refine vf (nnlt 56 b (by omega) (by omega)) ?_
          refine ev_X9_takes [] 100 ?_
          refine ⟨Or.inr rfl, good _ _ (fA _) (by rw [htk, if_pos (by omega)]) (fun f hf => ⟨fun h => ?_, fun h => ?_, fun h => ?_⟩)⟩
          · have h : f < F ∨ f = F ∧ 1 ≤ 0 + 1 := h
            show _ = nI (va_up D F (b - 48) f) ∧ _ = nI (va_up M F 0 f) ∧ _ = nI (va_up K F 0 f)
            rw [pi_off (c := 9) (k := 13) (by decide), pi_off (c := 9) (k := 12) (by decide), pi_off (c := 12) (k := 13) (by decide), pi_at, pi_at, pi_at]
            by_cases q : f = F
            · subst q
              rw [if_pos rfl, if_pos rfl, if_pos rfl, up_eq, up_eq, up_eq]
              have e : nI b - nI 48 = nI (b - 48) := pk_sub (by omega)
              exact ⟨e, rfl, rfl⟩
            · rw [if_neg q, if_neg q, if_neg q, up_ne q, up_ne q, up_ne q]
              exact (hr f hf).1 (Or.inl (by omega))
          · have h : f < F ∨ f = F ∧ 2 ≤ 0 + 1 := h
            exact (hr f hf).2.1 (by omega)
          · have h : f < F ∨ f = F ∧ 4 ≤ 0 + 1 := h
            exact (hr f hf).2.2 (by omega)
    · rw [t0] at e1
      have hk : k = 1 := by
        have e1 : (k : Int) = 0 + 1 := e1
        omega
      subst hk
      have htk : tk (F, D, P, C, M, K) 1 b = (if 48 ≤ b ∧ b ≤ 51 then some (F, D, va_up P F (10 * (b - 48)), C, M, K) else none) := by
        dsimp only [tk, tF, tD, tP, tC, tM, tK]
        rw [if_pos hF, if_neg (by decide), if_pos rfl]
      refine ev_X9_takes [99, 116] 100 ?_
      refine And.intro (nin F 8 hF (by omega)) ?_
      rw [nI_clamp (n := F) (by omega)]
      refine ev_X9_takes [116] 100 ?_
      have fA : ∀ v : Int32, fr [9, 10, 11, 12, 13] σ (qw_pi σ 10 F v) := fun v => fr.pi (by decide)
      by_cases q1 : b < 48
      · refine vt (nlt b 48 q1 (by omega)) ?_
        refine ev_X9_takes [] 100 ?_
        exact ⟨Or.inl rfl, bad _ (fA _) (by rw [htk, if_neg (by omega)])⟩
      · refine vf (nnlt b 48 (by omega) (by omega)) ?_
        by_cases q2 : 51 < b
        · refine vt (nlt 51 b q2 (by omega)) ?_
          refine ev_X9_takes [] 100 ?_
          exact ⟨Or.inl rfl, bad _ (fA _) (by rw [htk, if_neg (by omega)])⟩
        · refine vf (nnlt 51 b (by omega) (by omega)) ?_
          refine ev_X9_takes [] 100 ?_
          refine ⟨Or.inr rfl, good _ _ (fA _) (by rw [htk, if_pos (by omega)]) (fun f hf => ⟨fun h => ?_, fun h => ?_, fun h => ?_⟩)⟩
          · have h : f < F ∨ f = F ∧ 1 ≤ 1 + 1 := h
            exact (hr f hf).1 (by omega)
          · have h : f < F ∨ f = F ∧ 2 ≤ 1 + 1 := h
            show _ = nI (va_up P F (10 * (b - 48)) f)
            rw [pi_at]
            by_cases q : f = F
            · subst q
              rw [if_pos rfl, up_eq]
              have e : nI b - nI 48 = nI (b - 48) := pk_sub (by omega)
              show nI 10 * (nI b - nI 48) = _
              rw [e, pk_mul]
            · rw [if_neg q, up_ne q]
              exact (hr f hf).2.1 (Or.inl (by omega))
          · have h : f < F ∨ f = F ∧ 4 ≤ 1 + 1 := h
            exact (hr f hf).2.2 (by omega)
    · rw [t0] at e2
      have hk : k = 2 := by
        have e2 : (k : Int) = 0 + 1 + 1 := e2
        omega
      subst hk
      have hp := (hr F hF).2.1 (Or.inr ⟨rfl, by omega⟩)
      have hp32 := w6 (by omega)
      have htk : tk (F, D, P, C, M, K) 2 b = (if 48 ≤ b ∧ b ≤ 57 ∧ P F + (b - 48) < 32 then some (F, D, va_up P F (P F + (b - 48)), C, M, K) else none) := by
        dsimp only [tk, tF, tD, tP, tC, tM, tK]
        rw [if_pos hF, if_neg (by decide), if_neg (by decide), if_pos rfl]
      refine ev_X9_takes [130, 158] 100 ?_
      refine And.intro (nin F 8 hF (by omega)) ?_
      refine And.intro (nin F 8 hF (by omega)) ?_
      rw [nI_clamp (n := F) (by omega), hp]
      refine ev_X9_takes [158] 100 ?_
      have fA : ∀ v : Int32, fr [9, 10, 11, 12, 13] σ (qw_pi σ 10 F v) := fun v => fr.pi (by decide)
      by_cases q1 : b < 48
      · refine vt (nlt b 48 q1 (by omega)) ?_
        refine ev_X9_takes [] 100 ?_
        exact ⟨Or.inl rfl, bad _ (fA _) (by rw [htk, if_neg (by omega)])⟩
      · refine vf (nnlt b 48 (by omega) (by omega)) ?_
        by_cases q2 : 57 < b
        · refine vt (nlt 57 b q2 (by omega)) ?_
          refine ev_X9_takes [] 100 ?_
          exact ⟨Or.inl rfl, bad _ (fA _) (by rw [htk, if_neg (by omega)])⟩
        · refine vf (nnlt 57 b (by omega) (by omega)) ?_
          refine And.intro (nin F 8 hF (by omega)) ?_
          have e : nI b - nI 48 = nI (b - 48) := pk_sub (by omega)
          have ev : (qw_pi σ 10 F (nI (P F) + (nI b - nI 48)) 10).1 (nI F).toNatClampNeg = nI (P F + (b - 48)) := by
            rw [nI_clamp (n := F) (by omega), pi_eq, e, nI_add]
          by_cases q3 : 32 ≤ P F + (b - 48)
          · refine vt ?_ ?_
            · exact (congrArg (fun z => nI 32 ≤ z) ev).mpr (nle 32 (P F + (b - 48)) q3 (by omega))
            · refine ev_X9_takes [] 100 ?_
              exact ⟨Or.inl rfl, bad _ (fA _) (by rw [htk, if_neg (by omega)])⟩
          · refine vf ?_ ?_
            · exact fun z => nnle 32 (P F + (b - 48)) (by omega) (by omega) ((congrArg (fun z => nI 32 ≤ z) ev).mp z)
            · refine ev_X9_takes [] 100 ?_
              refine ⟨Or.inr rfl, good _ _ (fA _) (by rw [htk, if_pos (by omega)]) (fun f hf => ⟨fun h => ?_, fun h => ?_, fun h => ?_⟩)⟩
              · have h : f < F ∨ f = F ∧ 1 ≤ 2 + 1 := h
                exact (hr f hf).1 (by omega)
              · have h : f < F ∨ f = F ∧ 2 ≤ 2 + 1 := h
                show _ = nI (va_up P F (P F + (b - 48)) f)
                rw [pi_at]
                by_cases q : f = F
                · subst q
                  rw [if_pos rfl, up_eq]
                  show nI (P f) + (nI b - nI 48) = _
                  rw [e, nI_add]
                · rw [if_neg q, up_ne q]
                  exact (hr f hf).2.1 (Or.inl (by omega))
              · have h : f < F ∨ f = F ∧ 4 ≤ 2 + 1 := h
                exact (hr f hf).2.2 (by omega)
    · rw [t0] at e3
      have hk : k = 3 := by
        have e3 : (k : Int) = 0 + 1 + 1 + 1 := e3
        omega
      subst hk
      have htk : tk (F, D, P, C, M, K) 3 b = (match kol b with
        | some c => some (F, D, P, va_up C F c, M, K)
        | none => none) := by
        dsimp only [tk, tF, tD, tP, tC, tM, tK]
        rw [if_pos hF, if_neg (by decide), if_neg (by decide), if_neg (by decide), if_pos rfl]
      refine ev_X9_takes [182] 100 ?_
      refine ⟨trivial, _, m_ixh (k := 53) (Or.inl rfl) hb, fun z σ1 ⟨k1, k2⟩ => ?_⟩
      have k1 := k1.symm
      subst k1
      have k2 : z = obi (kol b) := Value.int.inj (Option.some.inj k2)
      subst k2
      refine And.intro (nin F 8 hF (by omega)) ?_
      rw [nI_clamp (n := F) (by omega)]
      refine And.intro (nin F 8 hF (by omega)) ?_
      rw [nI_clamp (n := F) (by omega), pi_eq]
      have fA : ∀ v : Int32, fr [9, 10, 11, 12, 13] σ (qw_pi σ 11 F v) := fun v => fr.pi (by decide)
      cases hc : kol b with
      | none =>
        refine vt (by decide) ?_
        exact ⟨Or.inl rfl, bad _ (fA _) (by rw [htk, hc])⟩
      | some c =>
        have := kol_lt hc
        refine vf (nnlt c 0 (by omega) (by omega)) ?_
        refine ev_X9_takes [] 100 ?_
        refine ⟨Or.inr rfl, good _ (F, D, P, va_up C F c, M, K) (fA _) (by rw [htk, hc]) (fun f hf => ⟨fun h => ?_, fun h => ?_, fun h => ?_⟩)⟩
        · have h : f < F ∨ f = F ∧ 1 ≤ 3 + 1 := h
          exact (hr f hf).1 (by omega)
        · have h : f < F ∨ f = F ∧ 2 ≤ 3 + 1 := h
          exact (hr f hf).2.1 (by omega)
        · have h : f < F ∨ f = F ∧ 4 ≤ 3 + 1 := h
          show _ = nI (va_up C F c f)
          rw [pi_at]
          by_cases q : f = F
          · subst q
            rw [if_pos rfl, up_eq]
            rfl
          · rw [if_neg q, up_ne q]
            exact (hr f hf).2.2 (Or.inl (by omega))
  · refine vf (nnlt F 8 (by omega) (by omega)) ?_
    subst hQ
    refine ⟨Or.inl rfl, fr.rf, Or.inr ⟨?_, rfl⟩⟩
    dsimp only [tk, tF]
    rw [if_neg hF]
def T00 : TT := (0, fun _ => 0, fun _ => 0, fun _ => 0, fun _ => 0, fun _ => 0)
def nx (s : TT × Nat) (b : Nat) : Option (TT × Nat) := if b = 59 ∧ 5 ≤ s.2 then some ((tF s.1 + 1, s.1.2), 0) else match tk s.1 s.2 b with
  | some T2 => some (T2, s.2 + 1)
  | none => none
def rn (B : Nat → Nat) : Nat → Sum Nat (TT × Nat)
  | 0 => .inr (T00, 0)
  | i + 1 => match rn B i with
    | .inl p => .inl p
    | .inr s => match nx s (B i) with
      | some s2 => .inr s2
      | none => .inl i
def fgF (B : Nat → Nat) (n : Nat) : Option Nat := match rn B n with
  | .inl p => some p
  | .inr s => if 0 < n ∧ s.2 < 5 then some n else none
def fgT (B : Nat → Nat) (n : Nat) : TT := match rn B n with
  | .inl _ => T00
  | .inr s => if 0 < n ∧ 5 ≤ s.2 then (tF s.1 + 1, s.1.2) else T00
theorem twf_nx {s s2 : TT × Nat} {b : Nat} (hw : twf s.1 s.2) (h : nx s b = some s2) : twf s2.1 s2.2 := by
  unfold nx at h
  split at h
  · rename_i q
    cases h
    obtain ⟨⟨F, D, P, C, M, K⟩, k⟩ := s
    dsimp only [twf, okf, tF, tD, tP, tC, tM, tK] at hw q ⊢
    obtain ⟨w1, w2, w3, w4, w5, w6, w7⟩ := hw
    refine ⟨by have := w2 (by omega); omega, fun h => by omega, by omega, fun f hf => ?_, fun h => by omega, fun h => by omega, fun h => by omega⟩
    by_cases e : f = F
    · subst e
      obtain ⟨b1, b2, b3, b4⟩ := w5 (by omega)
      exact ⟨b1, b2, w6 (by omega), w7 (by omega), by omega, by omega, by rw [b3]; exact b4⟩
    · exact w4 f (by omega)
  · split at h
    · rename_i T2 hT2
      cases h
      exact (twf_tk hw hT2).1
    · cases h
theorem twf_rn {B : Nat → Nat} : ∀ {n : Nat} {s : TT × Nat}, rn B n = .inr s → twf s.1 s.2
  | 0, s, h => by
    cases h
    exact ⟨by decide, fun h => absurd h (by decide), by decide, fun f hf => absurd hf (Nat.not_lt_zero f), fun h => absurd h (by decide), fun h => absurd h (by decide), fun h => absurd h (by decide)⟩
  | n + 1, s, h => by
    simp only [rn] at h
    cases h2 : rn B n with
    | inl p => rw [h2] at h; cases h
    | inr s1 =>
      rw [h2] at h
      have ih := twf_rn h2
      cases h3 : nx s1 (B n) with
      | none => simp only [h3] at h; cases h
      | some s2 =>
        simp only [h3] at h
        cases h
        exact twf_nx ih h3
theorem fgT_ok {B : Nat → Nat} {n : Nat} : okT (fgT B n) := by
  have t00 : okT T00 := ⟨by decide, fun f hf => absurd hf (Nat.not_lt_zero f)⟩
  unfold fgT
  cases h : rn B n with
  | inl p => exact t00
  | inr s =>
    dsimp only
    split
    · rename_i q
      have hw := twf_rn h
      obtain ⟨⟨F, D, P, C, M, K⟩, k⟩ := s
      dsimp only [twf, okf, okT, tF, tD, tP, tC, tM, tK] at hw q ⊢
      obtain ⟨w1, w2, w3, w4, w5, w6, w7⟩ := hw
      refine ⟨by have := w2 (by omega); omega, fun f hf => ?_⟩
      by_cases e : f = F
      · subst e
        obtain ⟨b1, b2, b3, b4⟩ := w5 (by omega)
        exact ⟨b1, b2, w6 (by omega), w7 (by omega), by omega, by omega, by rw [b3]; exact b4⟩
      · exact w4 f (by omega)
    · exact t00
theorem rn_stop {B : Nat → Nat} {j : Nat} : ∀ (k : Nat), rn B (j + 1) = .inl j → rn B (j + 1 + k) = .inl j
  | 0, h => h
  | k + 1, h => by
    show rn B ((j + 1 + k) + 1) = .inl j
    simp only [rn, rn_stop k h]
theorem m_tparse {σ : qw_M} {B : Nat → Nat} {n : Nat} (hn : n ≤ 87) (ht : tx σ 1 n B) : qw_Mt qw_tw wC my_X9_parse [.ref 8, .ref 1] σ (fun _ σ' => fr [8, 9, 10, 11, 12, 13] σ σ' ∧ (σ' 8).1 6 = obi (fgF B n) ∧ tr σ' (fgT B n)) := by
  generalize hQ : (fun (_ : Option Value) (σ' : qw_M) => fr [8, 9, 10, 11, 12, 13] σ σ' ∧ (σ' 8).1 6 = obi (fgF B n) ∧ tr σ' (fgT B n)) = Q
  refine mt_X9_parse (Q := Q) rfl ?_
  -- from 114: the count
  have fin2 : ∀ (f : Option Nat) (fg : Nat) (ls : qw_L) (σ' : qw_M), fr [8, 9, 10, 11, 12, 13] σ σ' → (σ' 8).1 6 = obi f → f = fgF B n → (∀ x, f = some x → x < 2 ^ 31) → (f = none → 0 < n → ∃ s, rn B n = .inr s ∧ 5 ≤ s.2 ∧ tF s.1 = fg ∧ trl σ' s.1 s.2) → (∀ q ∈ [(0, Value.ref 8), (1, .ref 1), (2, .int (nI fg))], q ∈ ls) → E_X9_parse Q 114 ls [] σ' := fun f fg ls σ' h1 h2 h3 h4 h5 h6 => by
    have hn3 : (σ' 1).1 1 = nI n := by rw [h1 1 (by decide)]; exact ht.1
    refine qw_Ev.sub (ev_X9_parse [137] 100 ?_) h6
    have z0 : (f = none → n = 0) → fgT B n = T00 := fun z => by
      unfold fgF at h3
      unfold fgT
      cases hr : rn B n with
      | inl p => rfl
      | inr s =>
        rw [hr] at h3
        dsimp only at h3 ⊢
        by_cases q : 0 < n ∧ s.2 < 5
        · rw [if_neg (by omega)]
        · rw [if_neg q] at h3
          have := z h3
          rw [if_neg (by omega)]
    have zero : (f = none → n = 0) → ∀ ls : qw_L, E_X9_parse Q 137 ls [.int (nI 0), .ref 8] σ' := fun z ls => by
      refine ev_X9_parse [] 100 ?_
      subst hQ
      refine ⟨h1.tr (fr.pi (by decide)), ?_, ?_⟩
      · rw [pi_ne (q := 6) (j := 5) (by decide), h2, h3]
      · refine ⟨fgT_ok, ?_, fun f hf => ?_⟩
        · rw [z0 z, pi_eq]
          rfl
        · rw [z0 z] at hf
          exact absurd hf (Nat.not_lt_zero f)
    cases f with
    | some p =>
      refine vnt (by rw [h2]; exact nI_m1 (h4 p rfl)) ?_
      exact zero (fun z => by cases z) _
    | none =>
      refine vnf (by rw [h2]; rfl) ?_
      by_cases n0 : n = 0
      · refine vt (by rw [hn3, n0]; decide) ?_
        exact zero (fun _ => n0) _
      · refine vf (by rw [hn3]; exact nnle n 0 (by omega) (by omega)) ?_
        obtain ⟨s, s1, s2, s3, s4⟩ := h5 rfl (by omega)
        have hT : fgT B n = (tF s.1 + 1, s.1.2) := by
          unfold fgT
          rw [s1]
          dsimp only
          rw [if_pos ⟨by omega, s2⟩]
        refine ev_X9_parse [] 100 ?_
        subst hQ
        refine ⟨h1.tr (fr.pi (by decide)), ?_, fgT_ok, ?_, ?_⟩
        · rw [pi_ne (q := 6) (j := 5) (by decide), h2, h3]
        · rw [pi_eq, hT]
          show nI fg + nI 1 = nI (tF s.1 + 1)
          rw [s3, nI_add]
        · have ok := fgT_ok (B := B) (n := n)
          rw [hT] at ok ⊢
          intro f hf
          have hF8 : tF s.1 + 1 ≤ 8 := ok.1
          have hf : f < tF s.1 + 1 := hf
          rw [pi_off (c := 9) (k := 8) (by decide), pi_off (c := 10) (k := 8) (by decide), pi_off (c := 11) (k := 8) (by decide), pi_off (c := 12) (k := 8) (by decide), pi_off (c := 13) (k := 8) (by decide)]
          obtain ⟨t1, t2, t3⟩ := s4 f (by omega)
          obtain ⟨u1, u2, u3⟩ := t1 (by omega)
          exact ⟨u1, t2 (by omega), t3 (by omega), u2, u3⟩
  -- from 86: behind the loop
  have fin : ∀ (r : Sum Nat (TT × Nat)) (fg k : Nat) (ls : qw_L) (σ' : qw_M), rn B n = r → fr [8, 9, 10, 11, 12, 13] σ σ' → (σ' 8).1 6 = obi (match r with | .inl p => some p | .inr _ => none) → (∀ p, r = .inl p → p < 2 ^ 31) → (∀ s, r = .inr s → tF s.1 = fg ∧ s.2 = k ∧ trl σ' s.1 s.2) → k ≤ 10 → (∀ q ∈ [(0, Value.ref 8), (1, .ref 1), (2, .int (nI fg)), (3, .int (nI k))], q ∈ ls) → E_X9_parse Q 86 ls [] σ' := fun r fg k ls σ' h0 h1 h2 h3 h4 h5 h6 => by
    have hn3 : (σ' 1).1 1 = nI n := by rw [h1 1 (by decide)]; exact ht.1
    refine qw_Ev.sub (ev_X9_parse [114] 100 ?_) h6
    cases r with
    | inl p =>
      refine vnt (by rw [h2]; exact nI_m1 (h3 p rfl)) ?_
      exact fin2 (some p) fg _ σ' h1 h2 (by unfold fgF; rw [h0]) (fun x hx => by cases hx; exact h3 p rfl) (fun z => by cases z) (sub_pre rfl)
    | inr s =>
      obtain ⟨e1, e2, e3⟩ := h4 s rfl
      refine vnf (by rw [h2]; rfl) ?_
      by_cases n0 : n = 0
      · refine vt (by rw [hn3, n0]; decide) ?_
        exact fin2 none fg _ σ' h1 h2 (by unfold fgF; rw [h0]; dsimp only; rw [if_neg (by omega)]) (fun x hx => by cases hx) (fun _ h => by omega) (sub_pre rfl)
      · refine vf (by rw [hn3]; exact nnle n 0 (by omega) (by omega)) ?_
        by_cases k5 : 5 ≤ k
        · refine vt (nle 5 k k5 (by omega)) ?_
          exact fin2 none fg _ σ' h1 h2 (by unfold fgF; rw [h0]; dsimp only; rw [if_neg (by omega)]) (fun x hx => by cases hx) (fun _ _ => ⟨s, h0, by omega, e1, e3⟩) (sub_pre rfl)
        · refine vf (nnle 5 k (by omega) (by omega)) ?_
          exact fin2 (some n) fg _ _ (h1.tr (fr.pi (by decide))) (by rw [pi_eq, hn3]; rfl) (by unfold fgF; rw [h0]; dsimp only; rw [if_pos (by omega)]) (fun x hx => by cases hx; omega) (fun z => by cases z) (sub_pre rfl)
  have loop : ∀ (k j : Nat) (y z w : Int32) (s : TT × Nat) (ls : qw_L) (σ' : qw_M), j + k = n → y = nI j → z = nI (tF s.1) → w = nI s.2 → fr [8, 9, 10, 11, 12, 13] σ σ' → (σ' 8).1 6 = m1 → rn B j = .inr s → trl σ' s.1 s.2 → (∀ q ∈ [(0, Value.ref 8), (1, .ref 1), (2, .int z), (3, .int w), (4, .int y)], q ∈ ls) → E_X9_parse Q 12 ls [] σ' := by
    intro k
    induction k with
    | zero =>
      intro j y z w s ls σ' hj hy hz hw hf hfa hrn hr hls
      subst hy
      subst hz
      subst hw
      have : j = n := by omega
      subst this
      have hn3 : (σ' 1).1 1 = nI j := by rw [hf 1 (by decide)]; exact ht.1
      have hk := (twf_rn hrn).2.2.1
      refine qw_Ev.sub (ev_X9_parse [12, 86] 100 ?_) hls
      refine vt (by rw [hn3]; exact Int32.le_refl _) ?_
      exact fin _ (tF s.1) s.2 _ σ' hrn hf hfa (fun p h => by cases h) (fun s2 h => by cases h; exact ⟨rfl, rfl, hr⟩) hk (sub_pre rfl)
    | succ k ih =>
      intro j y z w s ls σ' hj hy hz hw hf hfa hrn hr hls
      subst hy
      subst hz
      subst hw
      have hwf := twf_rn hrn
      have hk := hwf.2.2.1
      have hn3 : (σ' 1).1 1 = nI n := by rw [hf 1 (by decide)]; exact ht.1
      refine qw_Ev.sub (ev_X9_parse [12, 57, 80, 86] 100 ?_) hls
      refine vf (by rw [hn3]; exact nnle n j (by omega) (by omega)) ?_
      refine vnf (by rw [hfa]) ?_
      refine ⟨trivial, _, m_item (k := 1) (N := 87) (by unfold qr_row; omega) hn3 hn _, fun x σ2 ⟨k1, k2⟩ => ?_⟩
      have k1 := k1.symm
      subst k1
      rcases k2 with ⟨i, hi, ee, k2⟩ | ⟨k2, -⟩
      · have : j = i := nI_i (by omega) (by omega) ee
        subst this
        obtain ⟨b1, b2⟩ := ht.2 j hi
        have b2' : (σ' (1 + 1)).1 j = nI (B j) := by rw [hf (1 + 1) (by decide)]; exact b2
        rw [b2'] at k2
        cases k2
        have hstep : rn B (j + 1) = (match nx s (B j) with | some s2 => .inr s2 | none => .inl j) := by simp only [rn, hrn]
        have go : ∀ (s2 : TT × Nat) (z w : Int32) (ls : qw_L) (σ3 : qw_M), z = nI (tF s2.1) → w = nI s2.2 → fr [8, 9, 10, 11, 12, 13] σ σ3 → (σ3 8).1 6 = m1 → nx s (B j) = some s2 → trl σ3 s2.1 s2.2 → (∀ q ∈ [(0, Value.ref 8), (1, .ref 1), (2, .int z), (3, .int w), (4, .int (nI j))], q ∈ ls) → E_X9_parse Q 80 ls [] σ3 := fun s2 z w ls σ3 g0 g00 g1 g2 g3 g4 g5 => by
          refine qw_Ev.sub (ev_X9_parse [12] 100 ?_) g5
          exact ih (j + 1) _ _ _ s2 _ _ (by omega) (nI_add j 1) g0 g00 g1 g2 (by rw [hstep, g3]) g4 (sub_pre rfl)
        -- the byte is taken or not
        have tke : (B j = 59 ∧ 5 ≤ s.2 → False) → E_X9_parse Q 57 [(0, .ref 8), (1, .ref 1), (2, .int (nI (tF s.1))), (3, .int (nI s.2)), (4, .int (nI j)), (5, .int (nI (B j)))] [] σ' := fun hno => by
          have hnx : nx s (B j) = (match tk s.1 s.2 (B j) with | some T2 => some (T2, s.2 + 1) | none => none) := by unfold nx; rw [if_neg hno]
          refine ev_X9_parse [80] 100 ?_
          refine ⟨trivial, _, m_takes hwf hr b1, fun x σ3 _ ⟨f3, k2⟩ => ?_⟩
          have f3' : fr [8, 9, 10, 11, 12, 13] σ σ3 := hf.tr (f3.mo (by decide))
          have hfa3 : (σ3 8).1 6 = m1 := by rw [f3 8 (by decide)]; exact hfa
          rcases k2 with ⟨T2, t1, t2, t3⟩ | ⟨t1, t2⟩
          · cases t3
            refine vf (by decide) ?_
            refine go (T2, s.2 + 1) _ _ _ σ3 ?_ (nI_add s.2 1) f3' hfa3 (by rw [hnx, t1]) t2 (sub_pre rfl)
            rw [(twf_tk hwf t1).2]
          · cases t2
            refine vt rfl ?_
            have hstop : rn B n = .inl j := by
              have e : rn B (j + 1) = .inl j := by rw [hstep, hnx, t1]
              have := rn_stop k e
              rw [show j + 1 + k = n by omega] at this
              exact this
            have e1 : nI j + nI 1 = nI (j + 1) := nI_add j 1
            show E_X9_parse Q 80 [(0, .ref 8), (1, .ref 1), (2, .int (nI (tF s.1))), (3, .int (nI s.2)), (4, .int (nI j)), (5, .int (nI (B j)))] [] (qw_pi σ3 8 6 (nI j))
            have f4 : fr [8, 9, 10, 11, 12, 13] σ (qw_pi σ3 8 6 (nI j)) := f3'.tr (fr.pi (by decide))
            have hn4 : (qw_pi σ3 8 6 (nI j) 1).1 1 = nI n := by rw [f4 1 (by decide)]; exact ht.1
            refine ev_X9_parse [12] 100 ?_
            show E_X9_parse Q 12 [(0, .ref 8), (1, .ref 1), (2, .int (nI (tF s.1))), (3, .int (nI s.2)), (4, .int (nI j + nI 1)), (5, .int (nI (B j)))] [] (qw_pi σ3 8 6 (nI j))
            rw [e1]
            refine ev_X9_parse [12, 86] 100 ?_
            refine vb (fun _ => ?_) (fun _ => ?_)
            · exact fin _ (tF s.1) s.2 _ _ hstop f4 (by rw [pi_eq]; rfl) (fun p h => by cases h; omega) (fun s2 h => by cases h) hk (sub_pre rfl)
            · refine vnt (by rw [pi_eq]; exact nI_m1 (by omega)) ?_
              exact fin _ (tF s.1) s.2 _ _ hstop f4 (by rw [pi_eq]; rfl) (fun p h => by cases h; omega) (fun s2 h => by cases h) hk (sub_pre rfl)
        by_cases q1 : B j = 59
        · refine vnf (by rw [q1]) ?_
          by_cases q2 : 5 ≤ s.2
          · refine vf (nnlt s.2 5 q2 (by omega)) ?_
            refine go ((tF s.1 + 1, s.1.2), 0) _ _ _ σ' (nI_add (tF s.1) 1) rfl hf hfa (by unfold nx; rw [if_pos ⟨q1, q2⟩]) (fun f hf8 => ?_) (sub_pre rfl)
            obtain ⟨t1, t2, t3⟩ := hr f hf8
            refine ⟨fun h => ?_, fun h => ?_, fun h => ?_⟩
            · have h : f < tF s.1 + 1 ∨ f = tF s.1 + 1 ∧ 1 ≤ 0 := h
              exact t1 (by omega)
            · have h : f < tF s.1 + 1 ∨ f = tF s.1 + 1 ∧ 2 ≤ 0 := h
              exact t2 (by omega)
            · have h : f < tF s.1 + 1 ∨ f = tF s.1 + 1 ∧ 4 ≤ 0 := h
              exact t3 (by omega)
          · refine vt (nlt s.2 5 (by omega) (by omega)) ?_
            exact tke (by omega)
        · refine vnt (nne (B j) 59 q1 (by omega) (by omega)) ?_
          exact tke (by omega)
      · exact absurd rfl (k2 j (by omega))
  refine ev_X9_parse [12] 100 ?_
  refine loop n 0 _ _ _ (T00, 0) _ _ (by omega) rfl rfl rfl (fr.pi (by decide)) pi_eq rfl (fun f hf => ⟨fun h => ?_, fun h => ?_, fun h => ?_⟩) (sub_pre rfl)
  · have h : f < 0 ∨ f = 0 ∧ 1 ≤ 0 := h
    omega
  · have h : f < 0 ∨ f = 0 ∧ 2 ≤ 0 := h
    omega
  · have h : f < 0 ∨ f = 0 ∧ 4 ≤ 0 := h
    omega
/-- one number of a figure -/
def dtl (T : TT) (f w : Nat) : Int32 := if w = 0 then nI (tD T f) else if w = 1 then nI (tP T f) else if w = 2 then nI (tC T f) else if w = 3 then nI (tM T f) else if w - 4 < tM T f then nI ((tK T f).testBit (w - 4)).toNat else m1
theorem m_detail {σ : qw_M} {T : TT} (hT : tr σ T) {f w : Nat} (hf : f < tF T) (hw : w < 10) : qw_Mt qw_tw wC my_X9_detail [.ref 8, .int (nI f), .int (nI w)] σ (fun r σ' => σ' = σ ∧ r = some (.int (dtl T f w))) := by
  have hF := hT.1.1
  obtain ⟨o1, o2, o3, o4, o5, o6, o7⟩ := hT.1.2 f hf
  obtain ⟨r1, r2, r3, r4, r5⟩ := hT.2.2 f hf
  refine mt_X9_detail rfl (ev_X9_detail [10, 68, 96] 100 ?_)
  refine ⟨trivial, _, m_has hT _, fun z σ1 _ ⟨k1, k2⟩ => ?_⟩
  have k1 := k1.symm
  subst k1
  rcases k2 with ⟨g, hg, eg, k2⟩ | ⟨hn, -⟩
  · cases k2
    refine vnt (by decide) ?_
    refine ev_X9_detail [68, 96] 100 ?_
    have t0 : (nI w).toInt = (w : Int) := nI_toInt (by omega)
    refine And.intro (fun hc => ?_) (And.intro (by decide) (And.intro (fun e0 => ?_) (And.intro (fun e1 => ?_) (And.intro (fun e2 => ?_) (And.intro (fun e3 => ?_) trivial)))))
    · rw [t0] at hc
      have hk : 4 ≤ w := by
        rcases hc with hc | hc
        · exact absurd hc (by have : (0 : Int) ≤ (w : Int) := by omega
                              exact Int.not_lt.mpr this)
        · have hc : (3 : Int) < (w : Int) := hc
          omega
      have e4 : nI w - nI 4 = nI (w - 4) := pk_sub hk
      have hd : dtl T f w = if w - 4 < tM T f then nI ((tK T f).testBit (w - 4)).toNat else m1 := by
        unfold dtl
        rw [if_neg (by omega), if_neg (by omega), if_neg (by omega), if_neg (by omega)]
      rw [hd]
      refine ev_X9_detail [96] 100 ?_
      refine And.intro (nin f 8 (by omega) (by omega)) ?_
      rw [nI_clamp (n := f) (by omega), r4, e4]
      by_cases q : w - 4 < tM T f
      · refine vf (nnle (tM T f) (w - 4) q (by omega)) ?_
        rw [if_pos q]
        refine And.intro (nin f 8 (by omega) (by omega)) ?_
        rw [nI_clamp (n := f) (by omega), r5]
        refine ev_X9_detail [] 100 ?_
        refine ⟨rfl, ?_⟩
        have e5 : (nI (tK T f) >>> (nI (w - 4) &&& 31)) &&& nI 1 = nI (bt (nI (tK T f)) (w - 4)).toNat := bt_s (by omega)
        rw [bt_nI (by omega)] at e5
        show some (Value.int ((nI (tK T f) >>> ((nI w - nI 4) &&& 31)) &&& nI 1)) = _
        rw [e4, e5]
      · refine vt (nle (tM T f) (w - 4) (by omega) (by omega)) ?_
        rw [if_neg q]
        refine ev_X9_detail [] 100 ?_
        exact ⟨rfl, rfl⟩
    · rw [t0] at e0
      have hk : w = 0 := by
        have e0 : (w : Int) = 0 := e0
        omega
      subst hk
      refine And.intro (nin f 8 (by omega) (by omega)) ?_
      rw [nI_clamp (n := f) (by omega), r1]
      exact ⟨rfl, rfl⟩
    · rw [t0] at e1
      have hk : w = 1 := by
        have e1 : (w : Int) = 0 + 1 := e1
        omega
      subst hk
      refine And.intro (nin f 8 (by omega) (by omega)) ?_
      rw [nI_clamp (n := f) (by omega), r2]
      exact ⟨rfl, rfl⟩
    · rw [t0] at e2
      have hk : w = 2 := by
        have e2 : (w : Int) = 0 + 1 + 1 := e2
        omega
      subst hk
      refine And.intro (nin f 8 (by omega) (by omega)) ?_
      rw [nI_clamp (n := f) (by omega), r3]
      exact ⟨rfl, rfl⟩
    · rw [t0] at e3
      have hk : w = 3 := by
        have e3 : (w : Int) = 0 + 1 + 1 + 1 := e3
        omega
      subst hk
      refine And.intro (nin f 8 (by omega) (by omega)) ?_
      rw [nI_clamp (n := f) (by omega), r4]
      exact ⟨rfl, rfl⟩
  · exact absurd rfl (hn f hf)
