/-! The reference: its memory, and the figures' text read -/
/-- what stays: but these cells, but these numbers of the object itself -/
def frM (l fl : List Nat) (σ σ' : qw_M) : Prop := (∀ k, k ∉ l → k ≠ 0 → σ' k = σ k) ∧ ∀ j, j ∉ fl → (σ' 0).1 j = (σ 0).1 j
theorem frM.rf {l fl : List Nat} {σ : qw_M} : frM l fl σ σ := ⟨fun _ _ _ => rfl, fun _ _ => rfl⟩
theorem frM.tr {l fl : List Nat} {σ σ' σ2 : qw_M} (h : frM l fl σ σ') (h2 : frM l fl σ' σ2) : frM l fl σ σ2 := ⟨fun k hk h0 => (h2.1 k hk h0).trans (h.1 k hk h0), fun j hj => (h2.2 j hj).trans (h.2 j hj)⟩
theorem frM.mo {l l2 fl fl2 : List Nat} {σ σ' : qw_M} (h : frM l fl σ σ') (hs : ∀ k ∈ l, k ∈ l2) (hs2 : ∀ k ∈ fl, k ∈ fl2) : frM l2 fl2 σ σ' := ⟨fun k hk h0 => h.1 k (fun z => hk (hs k z)) h0, fun j hj => h.2 j (fun z => hj (hs2 j z))⟩
theorem frM.pi {l fl : List Nat} {σ : qw_M} {k j : Nat} {x : Int32} (hk : k ∈ l) (h0 : k ≠ 0) : frM l fl σ (qw_pi σ k j x) := ⟨fun q hq _ => pi_off (fun z => hq (z ▸ hk)), fun q _ => by rw [pi_off (fun z => h0 z.symm)]⟩
theorem frM.p0 {l fl : List Nat} {σ : qw_M} {j : Nat} {x : Int32} (hj : j ∈ fl) : frM l fl σ (qw_pi σ 0 j x) := ⟨fun q _ h0 => pi_off h0, fun q hq => pi_ne (fun z => hq (z ▸ hj))⟩
/-- the figures as read -/
def rf (σ : qw_M) (T : TT) : Prop := okT T ∧ (σ 0).1 7 = nI (tF T) ∧ ∀ f, f < tF T → (σ 7).1 (4 * f) = nI (tD T f) ∧ (σ 7).1 (4 * f + 1) = nI (tP T f) ∧ (σ 7).1 (4 * f + 2) = nI (tC T f) ∧ (σ 7).1 (4 * f + 3) = nI (tM T f) ∧ (σ 8).1 f = nI (tK T f)
theorem rf.fr {σ σ' : qw_M} {T : TT} {l fl : List Nat} (h : rf σ T) (hf : frM l fl σ σ') (h7 : 7 ∉ l) (h8 : 8 ∉ l) (hf7 : 7 ∉ fl) : rf σ' T := by
  unfold rf
  rw [hf.1 7 h7 (by decide), hf.1 8 h8 (by decide), hf.2 7 hf7]
  exact h
def prt (k b tens : Nat) : Option Nat := if k = 0 then (if 49 ≤ b ∧ b ≤ 56 then some (b - 48) else none) else if k = 1 then (if 48 ≤ b ∧ b ≤ 51 then some (b - 48) else none) else if k = 2 then (if 48 ≤ b ∧ b ≤ 48 + (if tens = 30 then 1 else 9) then some (b - 48) else none) else if k = 3 then kol b else if 9 < k then none else if b = 35 then some 1 else if b = 46 then some 0 else none
def obW (x : Option Nat) : Int32 := match x with
  | some v => nI v
  | none => wrong
theorem r_partOf {k b tens : Nat} (hk : k < 11) (hb : b < 256) (ht : tens < 32) {σ : qw_M} : qw_Mt qw_tw wM my_X12_partOf [.int (nI k), .int (nI b), .int (nI tens)] σ (fun r σ' => σ' = σ ∧ r = some (.int (obW (prt k b tens)))) := by
  refine mt_X12_partOf rfl (ev_X12_partOf [103] 100 ?_)
  have t0 : (nI k).toInt = (k : Int) := nI_toInt (by omega)
  refine And.intro (fun hc => ?_) (And.intro (by decide) (And.intro (fun e0 => ?_) (And.intro (fun e1 => ?_) (And.intro (fun e2 => ?_) (And.intro (fun e3 => ?_) trivial)))))
  · rw [t0] at hc
    have hk4 : 4 ≤ k := by
      rcases hc with hc | hc
      · exact absurd hc (by have : (0 : Int) ≤ (k : Int) := by omega
                            exact Int.not_lt.mpr this)
      · have hc : (3 : Int) < (k : Int) := hc
        omega
    have hp : prt k b tens = if 9 < k then none else if b = 35 then some 1 else if b = 46 then some 0 else none := by
      unfold prt
      rw [if_neg (by omega), if_neg (by omega), if_neg (by omega), if_neg (by omega)]
    rw [hp]
    by_cases q : 9 < k
    · refine vf (nnle k 9 q (by omega)) ?_
      refine ev_X12_partOf [] 100 ?_
      rw [if_pos q]
      exact ⟨rfl, rfl⟩
    · refine vt (nle k 9 (by omega) (by omega)) ?_
      rw [if_neg q]
      by_cases q1 : b = 35
      · refine vnf (by rw [q1]) ?_
        refine ev_X12_partOf [] 100 ?_
        rw [if_pos q1]
        exact ⟨rfl, rfl⟩
      · refine vnt (nne b 35 q1 (by omega) (by omega)) ?_
        rw [if_neg q1]
        by_cases q2 : b = 46
        · refine vnf (by rw [q2]) ?_
          refine ev_X12_partOf [] 100 ?_
          rw [if_pos q2]
          exact ⟨rfl, rfl⟩
        · refine vnt (nne b 46 q2 (by omega) (by omega)) ?_
          refine ev_X12_partOf [] 100 ?_
          rw [if_neg q2]
          exact ⟨rfl, rfl⟩
  · rw [t0] at e0
    have hk : k = 0 := by
      have e0 : (k : Int) = 0 := e0
      omega
    subst hk
    refine ⟨trivial, _, r_figureOf (lo := 1) (hi := 8) hb (by decide) (by decide), fun z σ1 ⟨k1, k2⟩ => ?_⟩
    refine ⟨k1, k2.trans ?_⟩
    show some (Value.int (if 48 + 1 ≤ b ∧ b ≤ 48 + 8 then nI (b - 48) else wrong)) = some (Value.int (obW (if 49 ≤ b ∧ b ≤ 56 then some (b - 48) else none)))
    by_cases q : 49 ≤ b ∧ b ≤ 56
    · rw [if_pos (by omega), if_pos q]; rfl
    · rw [if_neg (by omega), if_neg q]; rfl
  · rw [t0] at e1
    have hk : k = 1 := by
      have e1 : (k : Int) = 0 + 1 := e1
      omega
    subst hk
    refine ⟨trivial, _, r_figureOf (lo := 0) (hi := 3) hb (by decide) (by decide), fun z σ1 ⟨k1, k2⟩ => ?_⟩
    refine ⟨k1, k2.trans ?_⟩
    show some (Value.int (if 48 + 0 ≤ b ∧ b ≤ 48 + 3 then nI (b - 48) else wrong)) = some (Value.int (obW (if 48 ≤ b ∧ b ≤ 51 then some (b - 48) else none)))
    by_cases q : 48 ≤ b ∧ b ≤ 51
    · rw [if_pos (by omega), if_pos q]; rfl
    · rw [if_neg (by omega), if_neg q]; rfl
  · rw [t0] at e2
    have hk : k = 2 := by
      have e2 : (k : Int) = 0 + 1 + 1 := e2
      omega
    subst hk
    by_cases q3 : tens = 30
    · refine vnf (by rw [q3]) ?_
      refine ⟨trivial, _, r_figureOf (lo := 0) (hi := 1) hb (by decide) (by decide), fun z σ1 ⟨k1, k2⟩ => ?_⟩
      refine ⟨k1, k2.trans ?_⟩
      show some (Value.int (if 48 + 0 ≤ b ∧ b ≤ 48 + 1 then nI (b - 48) else wrong)) = some (Value.int (obW (if 48 ≤ b ∧ b ≤ 48 + (if tens = 30 then 1 else 9) then some (b - 48) else none)))
      rw [if_pos q3]
      by_cases q : 48 ≤ b ∧ b ≤ 48 + 1
      · rw [if_pos (by omega), if_pos q]; rfl
      · rw [if_neg (by omega), if_neg q]; rfl
    · refine vnt (nne tens 30 q3 (by omega) (by omega)) ?_
      refine ⟨trivial, _, r_figureOf (lo := 0) (hi := 9) hb (by decide) (by decide), fun z σ1 ⟨k1, k2⟩ => ?_⟩
      refine ⟨k1, k2.trans ?_⟩
      show some (Value.int (if 48 + 0 ≤ b ∧ b ≤ 48 + 9 then nI (b - 48) else wrong)) = some (Value.int (obW (if 48 ≤ b ∧ b ≤ 48 + (if tens = 30 then 1 else 9) then some (b - 48) else none)))
      rw [if_neg q3]
      by_cases q : 48 ≤ b ∧ b ≤ 48 + 9
      · rw [if_pos (by omega), if_pos q]; rfl
      · rw [if_neg (by omega), if_neg q]; rfl
  · rw [t0] at e3
    have hk : k = 3 := by
      have e3 : (k : Int) = 0 + 1 + 1 + 1 := e3
      omega
    subst hk
    refine ⟨trivial, _, r_colourOf hb, fun z σ1 ⟨k1, k2⟩ => ?_⟩
    refine ⟨k1, k2.trans ?_⟩
    show some (Value.int (match kol b with | some w => nI w | none => wrong)) = some (Value.int (obW (kol b)))
    cases kol b <;> rfl
/-- the rows behind some bytes -/
def mrl (σ : qw_M) (T : TT) (k : Nat) : Prop := ∀ f, f < 8 → (f < tF T ∨ (f = tF T ∧ 1 ≤ k) → (σ 7).1 (4 * f) = nI (tD T f) ∧ (σ 8).1 f = nI (tK T f)) ∧ (f < tF T ∨ (f = tF T ∧ 2 ≤ k) → (σ 7).1 (4 * f + 1) = nI (tP T f)) ∧ (f < tF T ∨ (f = tF T ∧ 4 ≤ k) → (σ 7).1 (4 * f + 2) = nI (tC T f)) ∧ (f < tF T ∨ (f = tF T ∧ 5 ≤ k) → (σ 7).1 (4 * f + 3) = nI (tM T f))
def tens (s : TT × Nat) : Prop := s.2 = 2 → tP s.1 (tF s.1) % 10 = 0
theorem tens_rn {B : Nat → Nat} : ∀ {n : Nat} {s : TT × Nat}, rn B n = .inr s → tens s
  | 0, s, h => by
    cases h
    intro z
    cases z
  | n + 1, s, h => by
    simp only [rn] at h
    cases h2 : rn B n with
    | inl p => rw [h2] at h; cases h
    | inr s1 =>
      rw [h2] at h
      cases h3 : nx s1 (B n) with
      | none => simp only [h3] at h; cases h
      | some s2 =>
        simp only [h3] at h
        cases h
        intro hs
        unfold nx at h3
        split at h3
        · cases h3; cases hs
        · split at h3
          · rename_i T2 hT2
            cases h3
            have hk : s1.2 = 1 := by
              have : s1.2 + 1 = 2 := hs
              omega
            rw [hk] at hT2
            unfold tk at hT2
            split at hT2
            · rw [if_neg (by decide), if_pos rfl] at hT2
              split at hT2
              · cases hT2
                show va_up _ _ _ _ % 10 = 0
                rw [up_eq]
                omega
              · cases hT2
            · cases hT2
          · cases h3
/-- the byte as the class takes it, and as the reference does -/
theorem prt_tk {T : TT} {k b : Nat} (hF : tF T < 8) (hw : twf T k) (ht : tens (T, k)) : tk T k b = (match prt k b (if k = 2 then tP T (tF T) else 0) with
    | none => none
    | some v => some (if k = 0 then (tF T, va_up (tD T) (tF T) v, tP T, tC T, va_up (tM T) (tF T) 0, va_up (tK T) (tF T) 0) else if k = 1 then (tF T, tD T, va_up (tP T) (tF T) (10 * v), tC T, tM T, tK T) else if k = 2 then (tF T, tD T, va_up (tP T) (tF T) (tP T (tF T) + v), tC T, tM T, tK T) else if k = 3 then (tF T, tD T, tP T, va_up (tC T) (tF T) v, tM T, tK T) else (tF T, tD T, tP T, tC T, va_up (tM T) (tF T) (tM T (tF T) + 1), va_up (tK T) (tF T) (if b = 35 then tK T (tF T) ||| 2 ^ tM T (tF T) else tK T (tF T))))) := by
  unfold tk
  rw [if_pos hF]
  by_cases k0 : k = 0
  · subst k0
    rw [if_pos rfl]
    show _ = (match (if 49 ≤ b ∧ b ≤ 56 then some (b - 48) else none) with | none => none | some v => _)
    by_cases q : 49 ≤ b ∧ b ≤ 56
    · rw [if_pos q, if_pos q]; rfl
    · rw [if_neg q, if_neg q]
  rw [if_neg k0]
  by_cases k1 : k = 1
  · subst k1
    rw [if_pos rfl]
    show _ = (match (if 48 ≤ b ∧ b ≤ 51 then some (b - 48) else none) with | none => none | some v => _)
    by_cases q : 48 ≤ b ∧ b ≤ 51
    · rw [if_pos q, if_pos q]; rfl
    · rw [if_neg q, if_neg q]
  rw [if_neg k1]
  by_cases k2 : k = 2
  · subst k2
    rw [if_pos rfl]
    have h10 : tP T (tF T) % 10 = 0 := ht rfl
    have h32 := hw.2.2.2.2.2.1 (by decide)
    show _ = (match (if 48 ≤ b ∧ b ≤ 48 + (if tP T (tF T) = 30 then 1 else 9) then some (b - 48) else none) with | none => none | some v => _)
    by_cases q : 48 ≤ b ∧ b ≤ 57 ∧ tP T (tF T) + (b - 48) < 32
    · rw [if_pos q, if_pos (by split <;> omega)]; rfl
    · rw [if_neg q, if_neg (by split <;> omega)]
  rw [if_neg k2]
  by_cases k3 : k = 3
  · subst k3
    rw [if_pos rfl]
    show _ = (match kol b with | none => none | some v => _)
    cases kol b <;> rfl
  rw [if_neg k3]
  have hM := (hw.2.2.2.2.1 (by omega)).2.2.1
  have hp : prt k b (if k = 2 then tP T (tF T) else 0) = if 9 < k then none else if b = 35 then some 1 else if b = 46 then some 0 else none := by
    unfold prt
    rw [if_neg k0, if_neg k1, if_neg k2, if_neg k3]
  rw [hp]
  simp only [if_neg k0, if_neg k1, if_neg k2, if_neg k3]
  generalize (tF T, tD T, tP T, tC T, va_up (tM T) (tF T) (tM T (tF T) + 1), va_up (tK T) (tF T) (if b = 35 then tK T (tF T) ||| 2 ^ tM T (tF T) else tK T (tF T))) = T2
  by_cases q : 9 < k
  · rw [if_pos q, if_neg (by omega)]
  · rw [if_neg q]
    by_cases q1 : b = 35
    · rw [if_pos q1, if_pos (by omega)]
    · rw [if_neg q1]
      by_cases q2 : b = 46
      · rw [if_pos q2, if_pos (by omega)]
      · rw [if_neg q2, if_neg (by omega)]
theorem prt_lt {k b t v : Nat} (hb : b < 256) (h : prt k b t = some v) : v < 10 := by
  unfold prt at h
  by_cases k0 : k = 0
  · rw [if_pos k0] at h
    by_cases q : 49 ≤ b ∧ b ≤ 56
    · rw [if_pos q] at h
      have := Option.some.inj h
      omega
    · rw [if_neg q] at h; cases h
  rw [if_neg k0] at h
  by_cases k1 : k = 1
  · rw [if_pos k1] at h
    by_cases q : 48 ≤ b ∧ b ≤ 51
    · rw [if_pos q] at h
      have := Option.some.inj h
      omega
    · rw [if_neg q] at h; cases h
  rw [if_neg k1] at h
  by_cases k2 : k = 2
  · rw [if_pos k2] at h
    have h9 : (if t = 30 then 1 else 9) ≤ 9 := by split <;> omega
    generalize (if t = 30 then 1 else 9) = z at h h9
    by_cases q : 48 ≤ b ∧ b ≤ 48 + z
    · rw [if_pos q] at h
      have := Option.some.inj h
      omega
    · rw [if_neg q] at h; cases h
  rw [if_neg k2] at h
  by_cases k3 : k = 3
  · rw [if_pos k3] at h
    have := kol_lt h
    omega
  rw [if_neg k3] at h
  by_cases q : 9 < k
  · rw [if_pos q] at h; cases h
  rw [if_neg q] at h
  by_cases q1 : b = 35
  · rw [if_pos q1] at h
    have := Option.some.inj h
    omega
  rw [if_neg q1] at h
  by_cases q2 : b = 46
  · rw [if_pos q2] at h
    have := Option.some.inj h
    omega
  · rw [if_neg q2] at h; cases h
theorem prt_mk {k b t v : Nat} (hk : 4 ≤ k) (h : prt k b t = some v) : k ≤ 9 ∧ v = (if b = 35 then 1 else 0) := by
  unfold prt at h
  rw [if_neg (by omega), if_neg (by omega), if_neg (by omega), if_neg (by omega)] at h
  by_cases q : 9 < k
  · rw [if_pos q] at h; cases h
  rw [if_neg q] at h
  refine ⟨by omega, ?_⟩
  by_cases q1 : b = 35
  · rw [if_pos q1] at h ⊢
    exact (Option.some.inj h).symm
  rw [if_neg q1] at h ⊢
  by_cases q2 : b = 46
  · rw [if_pos q2] at h
    exact (Option.some.inj h).symm
  · rw [if_neg q2] at h; cases h
theorem r_readsFigures {σ : qw_M} {B : Nat → Nat} {n : Nat} (hn : n ≤ 87) (h6 : (σ 6).1 0 = nI n) (h5 : ∀ i, i < n → B i < 256 ∧ (σ 5).1 i = nI (B i)) : qw_Mt qw_tw wM my_X12_readsFigures [.ref 0] σ (fun r σ' => frM [7, 8] [7] σ σ' ∧ r = some (.int (obi (fgF B n))) ∧ rf σ' (fgT B n)) := by
  generalize hQ : (fun (r : Option Value) (σ' : qw_M) => frM [7, 8] [7] σ σ' ∧ r = some (.int (obi (fgF B n))) ∧ rf σ' (fgT B n)) = Q
  refine mt_X12_readsFigures (Q := Q) rfl ?_
  have rf0 : ∀ σ2 : qw_M, frM [7, 8] [7] σ σ2 → fgT B n = T00 → rf (qw_pi σ2 0 7 (nI 0)) (fgT B n) := fun σ2 h e => by
    rw [e]
    exact ⟨⟨by decide, fun f hf => absurd hf (Nat.not_lt_zero f)⟩, pi_eq, fun f hf => absurd hf (Nat.not_lt_zero f)⟩
  -- at the end
  have fin : ∀ (s : TT × Nat) (ls : qw_L) (σ' : qw_M), rn B n = .inr s → frM [7, 8] [7] σ σ' → (σ' 0).1 7 = nI (tF s.1) → mrl σ' s.1 s.2 → (∀ q ∈ [(0, Value.ref 0), (1, .int (nI n)), (2, .int (nI s.2))], q ∈ ls) → E_X12_readsFigures Q 263 ls [] σ' := fun s ls σ' h0 h1 h2 h3 h4 => by
    have hw := twf_rn h0
    have hk := hw.2.2.1
    refine qw_Ev.sub (ev_X12_readsFigures [279, 293] 100 ?_) h4
    by_cases n0 : n = 0
    · refine vt (nle n 0 (by omega) (by decide)) ?_
      refine ev_X12_readsFigures [293] 100 ?_
      refine vt (nle n 0 (by omega) (by decide)) ?_
      refine ev_X12_readsFigures [] 100 ?_
      have hs : s = (T00, 0) := by
        rw [n0] at h0
        cases h0
        rfl
      subst hQ
      have e1 : fgF B n = none := by unfold fgF; rw [h0]; dsimp only; rw [if_neg (by omega)]
      have e2 : fgT B n = T00 := by unfold fgT; rw [h0]; dsimp only; rw [if_neg (by omega)]
      refine ⟨h1.tr (frM.p0 (by decide)), by rw [e1]; rfl, ?_⟩
      have e3 : (σ' 0).1 7 + nI 0 = nI 0 := by rw [h2, hs]; rfl
      rw [e3]
      exact rf0 σ' h1 e2
    · refine vf (nnle n 0 (by omega) (by omega)) ?_
      by_cases k5 : 5 ≤ s.2
      · refine vt (nle 5 s.2 k5 (by omega)) ?_
        refine ev_X12_readsFigures [293] 100 ?_
        refine vf (nnle n 0 (by omega) (by omega)) ?_
        refine ev_X12_readsFigures [] 100 ?_
        subst hQ
        have e1 : fgF B n = none := by unfold fgF; rw [h0]; dsimp only; rw [if_neg (by omega)]
        have e2 : fgT B n = (tF s.1 + 1, s.1.2) := by unfold fgT; rw [h0]; dsimp only; rw [if_pos (by omega)]
        refine ⟨h1.tr (frM.p0 (by decide)), by rw [e1]; rfl, fgT_ok, ?_, ?_⟩
        · rw [pi_eq, e2, h2, nI_add]
        · have ok := fgT_ok (B := B) (n := n)
          rw [e2] at ok ⊢
          intro f hf
          have hF8 : tF s.1 + 1 ≤ 8 := ok.1
          have hf : f < tF s.1 + 1 := hf
          rw [pi_off (c := 7) (k := 0) (by decide), pi_off (c := 8) (k := 0) (by decide)]
          obtain ⟨t1, t2, t3, t4⟩ := h3 f (by omega)
          obtain ⟨u1, u2⟩ := t1 (by omega)
          exact ⟨u1, t2 (by omega), t3 (by omega), t4 (by omega), u2⟩
      · refine vf (nnle 5 s.2 (by omega) (by omega)) ?_
        subst hQ
        have e1 : fgF B n = some n := by unfold fgF; rw [h0]; dsimp only; rw [if_pos (by omega)]
        have e2 : fgT B n = T00 := by unfold fgT; rw [h0]; dsimp only; rw [if_neg (by omega)]
        exact ⟨h1.tr (frM.p0 (by decide)), by rw [e1]; rfl, rf0 σ' h1 e2⟩
  have loop : ∀ (k j : Nat) (y w : Int32) (s : TT × Nat) (ls : qw_L) (σ' : qw_M), j + k = n → y = nI j → w = nI s.2 → frM [7, 8] [7] σ σ' → rn B j = .inr s → (σ' 0).1 7 = nI (tF s.1) → mrl σ' s.1 s.2 → (∀ q ∈ [(0, Value.ref 0), (1, .int (nI n)), (2, .int w), (3, .int y)], q ∈ ls) → E_X12_readsFigures Q 16 ls [] σ' := by
    intro k
    induction k with
    | zero =>
      intro j y w s ls σ' hj hy hw hf hrn hr7 hr hls
      subst hy
      subst hw
      have : j = n := by omega
      subst this
      refine qw_Ev.sub (ev_X12_readsFigures [16, 263] 100 ?_) hls
      refine vt (Int32.le_refl _) ?_
      exact fin s _ σ' hrn hf hr7 hr (sub_pre rfl)
    | succ k ih =>
      intro j y w s ls σ' hj hy hw hf hrn hr7 hr hls
      subst hy
      subst hw
      have hwf := twf_rn hrn
      have hte := tens_rn hrn
      obtain ⟨T, kk⟩ := s
      have hk : kk ≤ 10 := hwf.2.2.1
      have hF8 : tF T ≤ 8 := hwf.1
      obtain ⟨b1, b2⟩ := h5 j (by omega)
      have hb : (σ' 5).1 j = nI (B j) := by rw [hf.1 5 (by decide) (by decide)]; exact b2
      generalize hBj : B j = b at b1 hb
      have hstep : rn B (j + 1) = (match nx (T, kk) b with | some s2 => .inr s2 | none => .inl j) := by
        simp only [rn, hrn, hBj]
        cases nx (T, kk) b <;> rfl
      -- on
      have go : ∀ (s2 : TT × Nat) (w : Int32) (ls : qw_L) (σ3 : qw_M), w = nI s2.2 → frM [7, 8] [7] σ σ3 → (σ3 0).1 7 = nI (tF s2.1) → nx (T, kk) b = some s2 → mrl σ3 s2.1 s2.2 → (∀ q ∈ [(0, Value.ref 0), (1, .int (nI n)), (2, .int w), (3, .int (nI j))], q ∈ ls) → E_X12_readsFigures Q 257 ls [] σ3 := fun s2 w ls σ3 g0 g1 g2 g3 g4 g5 => by
        refine qw_Ev.sub (ev_X12_readsFigures [16] 100 ?_) g5
        exact ih (j + 1) _ _ s2 _ _ (by omega) (nI_add j 1) g0 g1 (by rw [hstep, g3]) g2 g4 (sub_pre rfl)
      have bad : nx (T, kk) b = none → Q (some (.int (nI j))) (qw_pi σ' 0 7 (nI 0)) := fun hno => by
        have hstop : rn B n = .inl j := by
          have e : rn B (j + 1) = .inl j := by rw [hstep, hno]
          have := rn_stop k e
          rw [show j + 1 + k = n by omega] at this
          exact this
        have e1 : fgF B n = some j := by unfold fgF; rw [hstop]
        have e2 : fgT B n = T00 := by unfold fgT; rw [hstop]
        subst hQ
        exact ⟨hf.tr (frM.p0 (by decide)), by rw [e1]; rfl, rf0 σ' hf e2⟩
      have hnx : nx (T, kk) b = if b = 59 ∧ 5 ≤ kk then some ((tF T + 1, T.2), 0) else match tk T kk b with
        | some T2 => some (T2, kk + 1)
        | none => none := rfl
      -- the next one, or not
      have at54 : ∀ nb : Bool, nb = (decide (b = 59) && decide (5 ≤ kk)) → E_X12_readsFigures Q 54 [(0, .ref 0), (1, .int (nI n)), (2, .int (nI kk)), (3, .int (nI j)), (4, .int (nI b)), (5, .int (nI (4 * tF T)))] [.int (nI nb.toNat)] σ' := fun nb hnb => by
        have at94 : ∀ v : Option Nat, v = (if tF T < 8 then prt kk b (if kk = 2 then tP T (tF T) else 0) else none) → E_X12_readsFigures Q 94 [(0, .ref 0), (1, .int (nI n)), (2, .int (nI kk)), (3, .int (nI j)), (4, .int (nI b)), (5, .int (nI (4 * tF T))), (6, .int (nI nb.toNat))] [.int (obW v)] σ' := fun v hv => by
          have at115 : (nb = true ∨ ∃ x, v = some x) → E_X12_readsFigures Q 115 [(0, .ref 0), (1, .int (nI n)), (2, .int (nI kk)), (3, .int (nI j)), (4, .int (nI b)), (5, .int (nI (4 * tF T))), (6, .int (nI nb.toNat)), (7, .int (obW v))] [] σ' := fun hor => by
            refine ev_X12_readsFigures [135, 257] 100 ?_
            cases hnb2 : nb with
            | true =>
              refine vf n10 ?_
              rw [hnb2] at hnb
              have hnb := hnb.symm
              rw [Bool.and_eq_true] at hnb
              have q1 := of_decide_eq_true hnb.1
              have q2 := of_decide_eq_true hnb.2
              refine go ((tF T + 1, T.2), 0) _ _ _ rfl (hf.tr (frM.p0 (by decide))) ?_ (by rw [hnx, if_pos ⟨q1, q2⟩]) (fun f hf8 => ?_) (sub_pre rfl)
              · rw [pi_eq, hr7, nI_add]
              · obtain ⟨t1, t2, t3, t4⟩ := hr f hf8
                rw [pi_off (c := 7) (k := 0) (by decide), pi_off (c := 8) (k := 0) (by decide)]
                have e1 : ∀ m, (f < tF T + 1 ∨ f = tF T + 1 ∧ m ≤ 0) → 1 ≤ m → f < tF T ∨ f = tF T := fun m q _ => by omega
                refine ⟨fun h => t1 ?_, fun h => t2 ?_, fun h => t3 ?_, fun h => t4 ?_⟩
                · have h : f < tF T + 1 ∨ f = tF T + 1 ∧ 1 ≤ 0 := h
                  show f < tF T ∨ f = tF T ∧ 1 ≤ kk
                  omega
                · have h : f < tF T + 1 ∨ f = tF T + 1 ∧ 2 ≤ 0 := h
                  show f < tF T ∨ f = tF T ∧ 2 ≤ kk
                  omega
                · have h : f < tF T + 1 ∨ f = tF T + 1 ∧ 4 ≤ 0 := h
                  show f < tF T ∨ f = tF T ∧ 4 ≤ kk
                  omega
                · have h : f < tF T + 1 ∨ f = tF T + 1 ∧ 5 ≤ 0 := h
                  show f < tF T ∨ f = tF T ∧ 5 ≤ kk
                  omega
            | false =>
              refine vt rfl ?_
              rw [hnb2] at hnb hor
              obtain ⟨x, hx⟩ : ∃ x, v = some x := by
                rcases hor with q | q
                · cases q
                · exact q
              have hno : ¬ (b = 59 ∧ 5 ≤ kk) := fun q => by
                rw [decide_eq_true q.1, decide_eq_true q.2] at hnb
                cases hnb
              have hF : tF T < 8 := by
                rcases Nat.lt_or_ge (tF T) 8 with q | q
                · exact q
                · rw [if_neg (by omega)] at hv
                  rw [hv] at hx
                  cases hx
              rw [if_pos hF] at hv
              have hp := hv.symm.trans hx
              have hx10 := prt_lt b1 hp
              have htk := prt_tk hF hwf hte (b := b)
              rw [hp] at htk
              dsimp only at htk
              rw [if_neg hno] at hnx
              obtain ⟨w1, w2, w3, w4, w5, w6, w7⟩ := hwf
              have hr7 : (σ' 0).1 7 = nI (tF T) := hr7
              have hr : mrl σ' T kk := hr
              subst hx
              have go2 : ∀ (T2 : TT) (σ3 : qw_M), frM [7, 8] [7] σ σ3 → (σ3 0).1 7 = nI (tF T) → tF T2 = tF T → tk T kk b = some T2 → mrl σ3 T2 (kk + 1) → E_X12_readsFigures Q 254 [(0, .ref 0), (1, .int (nI n)), (2, .int (nI kk)), (3, .int (nI j)), (4, .int (nI b)), (5, .int (nI (4 * tF T))), (6, .int (nI false.toNat)), (7, .int (nI x))] [] σ3 := fun T2 σ3 g1 g2 g3 g4 g5 => by
                refine ev_X12_readsFigures [257] 100 ?_
                rw [g4] at hnx
                exact go (T2, kk + 1) _ _ σ3 (nI_add kk 1) g1 (by rw [g2, g3]) hnx g5 (sub_pre rfl)
              show E_X12_readsFigures Q 135 [(0, .ref 0), (1, .int (nI n)), (2, .int (nI kk)), (3, .int (nI j)), (4, .int (nI b)), (5, .int (nI (4 * tF T))), (6, .int (nI false.toNat)), (7, .int (nI x))] [] σ'
              have i1 : nI (4 * tF T) + nI 1 = nI (4 * tF T + 1) := nI_add _ 1
              have i2 : nI (4 * tF T) + nI 2 = nI (4 * tF T + 2) := nI_add _ 2
              have i3 : nI (4 * tF T) + nI 3 = nI (4 * tF T + 3) := nI_add _ 3
              refine ev_X12_readsFigures [161, 254] 100 ?_
              by_cases k0 : kk = 0
              · subst k0
                rw [if_pos rfl] at htk
                refine vnf rfl ?_
                refine And.intro (nin (4 * tF T) 32 (by omega) (by decide)) ?_
                rw [nI_clamp (n := 4 * tF T) (by omega)]
                have e7 : (qw_pi σ' 7 (4 * tF T) (nI x) 0).1 7 = nI (tF T) := by rw [pi_off (by decide)]; exact hr7
                refine And.intro (by rw [e7]; exact nin (tF T) 8 hF (by decide)) ?_
                have ec : ((qw_pi σ' 7 (4 * tF T) (nI x) 0).1 7).toNatClampNeg = tF T := by rw [e7]; exact nI_clamp (by omega)
                show E_X12_readsFigures Q 254 [(0, .ref 0), (1, .int (nI n)), (2, .int (nI 0)), (3, .int (nI j)), (4, .int (nI b)), (5, .int (nI (4 * tF T))), (6, .int (nI false.toNat)), (7, .int (nI x))] [] (qw_pi (qw_pi σ' 7 (4 * tF T) (nI x)) 8 ((qw_pi σ' 7 (4 * tF T) (nI x) 0).1 7).toNatClampNeg (nI 0))
                rw [ec]
                refine go2 _ _ (hf.tr ((frM.pi (by decide) (by decide)).tr (frM.pi (by decide) (by decide)))) (by rw [pi_off (by decide)]; exact e7) (by rfl) htk (fun f hf8 => ?_)
                obtain ⟨t1, t2, t3, t4⟩ := hr f hf8
                refine ⟨fun h => ?_, fun h => ?_, fun h => ?_, fun h => ?_⟩
                · have h : f < tF T ∨ f = tF T ∧ 1 ≤ 0 + 1 := h
                  show _ = nI (va_up (tD T) (tF T) x f) ∧ _ = nI (va_up (tK T) (tF T) 0 f)
                  rw [pi_off (c := 7) (k := 8) (by decide), pi_at, pi_at, pi_off (c := 8) (k := 7) (by decide)]
                  by_cases q : f = tF T
                  · rw [q, if_pos rfl, if_pos rfl, up_eq, up_eq]
                    exact ⟨rfl, rfl⟩
                  · rw [if_neg (by omega), if_neg q, up_ne q, up_ne q]
                    exact t1 (Or.inl (by omega))
                · have h : f < tF T ∨ f = tF T ∧ 2 ≤ 0 + 1 := h
                  rw [pi_off (c := 7) (k := 8) (by decide), pi_ne (by omega)]
                  exact t2 (Or.inl (by omega))
                · have h : f < tF T ∨ f = tF T ∧ 4 ≤ 0 + 1 := h
                  rw [pi_off (c := 7) (k := 8) (by decide), pi_ne (by omega)]
                  exact t3 (Or.inl (by omega))
                · have h : f < tF T ∨ f = tF T ∧ 5 ≤ 0 + 1 := h
                  show _ = nI (va_up (tM T) (tF T) 0 f)
                  rw [pi_off (c := 7) (k := 8) (by decide), pi_ne (by omega), up_ne (by omega)]
                  exact t4 (Or.inl (by omega))
              rw [if_neg k0] at htk
              refine vnt (nI_ne0 (n := kk) (by omega) (by omega)) ?_
              refine ev_X12_readsFigures [183, 254] 100 ?_
              by_cases k1 : kk = 1
              · subst k1
                rw [if_pos rfl] at htk
                refine vnf rfl ?_
                refine And.intro (by rw [i1]; exact nin (4 * tF T + 1) 32 (by omega) (by decide)) ?_
                have e10 : nI 10 * nI x = nI (10 * x) := pk_mul 10 x
                have ecl : (nI (4 * tF T) + nI 1).toNatClampNeg = 4 * tF T + 1 := by rw [i1]; exact nI_clamp (by omega)
                show E_X12_readsFigures Q 254 [(0, .ref 0), (1, .int (nI n)), (2, .int (nI 1)), (3, .int (nI j)), (4, .int (nI b)), (5, .int (nI (4 * tF T))), (6, .int (nI false.toNat)), (7, .int (nI x))] [] (qw_pi σ' 7 (nI (4 * tF T) + nI 1).toNatClampNeg (nI 10 * nI x))
                rw [ecl, e10]
                refine go2 _ _ (hf.tr (frM.pi (by decide) (by decide))) (by rw [pi_off (by decide)]; exact hr7) (by rfl) htk (fun f hf8 => ?_)
                obtain ⟨t1, t2, t3, t4⟩ := hr f hf8
                refine ⟨fun h => ?_, fun h => ?_, fun h => ?_, fun h => ?_⟩
                · have h : f < tF T ∨ f = tF T ∧ 1 ≤ 1 + 1 := h
                  rw [pi_ne (by omega), pi_off (c := 8) (k := 7) (by decide)]
                  exact t1 (by omega)
                · have h : f < tF T ∨ f = tF T ∧ 2 ≤ 1 + 1 := h
                  show _ = nI (va_up (tP T) (tF T) (10 * x) f)
                  rw [pi_at]
                  by_cases q : f = tF T
                  · rw [q, if_pos rfl, up_eq]
                  · rw [if_neg (by omega), up_ne q]
                    exact t2 (Or.inl (by omega))
                · have h : f < tF T ∨ f = tF T ∧ 4 ≤ 1 + 1 := h
                  rw [pi_ne (by omega)]
                  exact t3 (Or.inl (by omega))
                · have h : f < tF T ∨ f = tF T ∧ 5 ≤ 1 + 1 := h
                  rw [pi_ne (by omega)]
                  exact t4 (Or.inl (by omega))
              rw [if_neg k1] at htk
              refine vnt (nne kk 1 k1 (by omega) (by omega)) ?_
              refine ev_X12_readsFigures [205, 254] 100 ?_
              by_cases k2 : kk = 2
              · subst k2
                rw [if_pos rfl] at htk
                refine vnf rfl ?_
                have h32 := w6 (Nat.le_refl 2)
                have hpl := (hr (tF T) hF).2.1 (Or.inr ⟨rfl, by decide⟩)
                refine And.intro (by rw [i1]; exact nin (4 * tF T + 1) 32 (by omega) (by decide)) ?_
                refine And.intro (by rw [i1]; exact nin (4 * tF T + 1) 32 (by omega) (by decide)) ?_
                have ecl : (nI (4 * tF T) + nI 1).toNatClampNeg = 4 * tF T + 1 := by rw [i1]; exact nI_clamp (by omega)
                show E_X12_readsFigures Q 254 [(0, .ref 0), (1, .int (nI n)), (2, .int (nI 2)), (3, .int (nI j)), (4, .int (nI b)), (5, .int (nI (4 * tF T))), (6, .int (nI false.toNat)), (7, .int (nI x))] [] (qw_pi σ' 7 (nI (4 * tF T) + nI 1).toNatClampNeg ((σ' 7).1 (nI (4 * tF T) + nI 1).toNatClampNeg + nI x))
                rw [ecl, hpl, nI_add]
                refine go2 _ _ (hf.tr (frM.pi (by decide) (by decide))) (by rw [pi_off (by decide)]; exact hr7) (by rfl) htk (fun f hf8 => ?_)
                obtain ⟨t1, t2, t3, t4⟩ := hr f hf8
                refine ⟨fun h => ?_, fun h => ?_, fun h => ?_, fun h => ?_⟩
                · have h : f < tF T ∨ f = tF T ∧ 1 ≤ 2 + 1 := h
                  rw [pi_ne (by omega), pi_off (c := 8) (k := 7) (by decide)]
                  exact t1 (by omega)
                · have h : f < tF T ∨ f = tF T ∧ 2 ≤ 2 + 1 := h
                  show _ = nI (va_up (tP T) (tF T) (tP T (tF T) + x) f)
                  rw [pi_at]
                  by_cases q : f = tF T
                  · rw [q, if_pos rfl, up_eq]
                  · rw [if_neg (by omega), up_ne q]
                    exact t2 (Or.inl (by omega))
                · have h : f < tF T ∨ f = tF T ∧ 4 ≤ 2 + 1 := h
                  rw [pi_ne (by omega)]
                  exact t3 (Or.inl (by omega))
                · have h : f < tF T ∨ f = tF T ∧ 5 ≤ 2 + 1 := h
                  rw [pi_ne (by omega)]
                  exact t4 (Or.inl (by omega))
              rw [if_neg k2] at htk
              refine vnt (nne kk 2 k2 (by omega) (by omega)) ?_
              refine ev_X12_readsFigures [224, 254] 100 ?_
              by_cases k3 : kk = 3
              · subst k3
                rw [if_pos rfl] at htk
                refine vnf rfl ?_
                refine And.intro (by rw [i2]; exact nin (4 * tF T + 2) 32 (by omega) (by decide)) ?_
                have ecl : (nI (4 * tF T) + nI 2).toNatClampNeg = 4 * tF T + 2 := by rw [i2]; exact nI_clamp (by omega)
                show E_X12_readsFigures Q 254 [(0, .ref 0), (1, .int (nI n)), (2, .int (nI 3)), (3, .int (nI j)), (4, .int (nI b)), (5, .int (nI (4 * tF T))), (6, .int (nI false.toNat)), (7, .int (nI x))] [] (qw_pi σ' 7 (nI (4 * tF T) + nI 2).toNatClampNeg (nI x))
                rw [ecl]
                refine go2 _ _ (hf.tr (frM.pi (by decide) (by decide))) (by rw [pi_off (by decide)]; exact hr7) (by rfl) htk (fun f hf8 => ?_)
                obtain ⟨t1, t2, t3, t4⟩ := hr f hf8
                refine ⟨fun h => ?_, fun h => ?_, fun h => ?_, fun h => ?_⟩
                · have h : f < tF T ∨ f = tF T ∧ 1 ≤ 3 + 1 := h
                  rw [pi_ne (by omega), pi_off (c := 8) (k := 7) (by decide)]
                  exact t1 (by omega)
                · have h : f < tF T ∨ f = tF T ∧ 2 ≤ 3 + 1 := h
                  rw [pi_ne (by omega)]
                  exact t2 (by omega)
                · have h : f < tF T ∨ f = tF T ∧ 4 ≤ 3 + 1 := h
                  show _ = nI (va_up (tC T) (tF T) x f)
                  rw [pi_at]
                  by_cases q : f = tF T
                  · rw [q, if_pos rfl, up_eq]
                  · rw [if_neg (by omega), up_ne q]
                    exact t3 (Or.inl (by omega))
                · have h : f < tF T ∨ f = tF T ∧ 5 ≤ 3 + 1 := h
                  rw [pi_ne (by omega)]
                  exact t4 (Or.inl (by omega))
              rw [if_neg k3] at htk
              refine vnt (nne kk 3 k3 (by omega) (by omega)) ?_
              refine ev_X12_readsFigures [254] 100 ?_
              obtain ⟨k9, hxx⟩ := prt_mk (by omega) hp
              obtain ⟨u1, u2, u3, u4⟩ := w5 (by omega)
              have hkl := ((hr (tF T) hF).1 (Or.inr ⟨rfl, by omega⟩)).2
              refine And.intro (by rw [i3]; exact nin (4 * tF T + 3) 32 (by omega) (by decide)) ?_
              have ecl : (nI (4 * tF T) + nI 3).toNatClampNeg = 4 * tF T + 3 := by rw [i3]; exact nI_clamp (by omega)
              have s3 : nI kk - nI 3 = nI (kk - 3) := pk_sub (by omega)
              have s4 : nI kk - nI 4 = nI (kk - 4) := pk_sub (by omega)
              have e7 : ∀ (q : Nat) (v : Int32), (qw_pi σ' 7 q v 0).1 7 = nI (tF T) := fun q v => by rw [pi_off (by decide)]; exact hr7
              have ec : ∀ (q : Nat) (v : Int32), ((qw_pi σ' 7 q v 0).1 7).toNatClampNeg = tF T := fun q v => by rw [e7]; exact nI_clamp (by omega)
              refine And.intro (by rw [e7]; exact nin (tF T) 8 hF (by decide)) ?_
              refine And.intro (by rw [e7]; exact nin (tF T) 8 hF (by decide)) ?_
              show E_X12_readsFigures Q 254 [(0, .ref 0), (1, .int (nI n)), (2, .int (nI kk)), (3, .int (nI j)), (4, .int (nI b)), (5, .int (nI (4 * tF T))), (6, .int (nI false.toNat)), (7, .int (nI x))] [] (qw_pi (qw_pi σ' 7 (nI (4 * tF T) + nI 3).toNatClampNeg (nI kk - nI 3)) 8 ((qw_pi σ' 7 (nI (4 * tF T) + nI 3).toNatClampNeg (nI kk - nI 3) 0).1 7).toNatClampNeg ((qw_pi σ' 7 (nI (4 * tF T) + nI 3).toNatClampNeg (nI kk - nI 3) 8).1 ((qw_pi σ' 7 (nI (4 * tF T) + nI 3).toNatClampNeg (nI kk - nI 3) 0).1 7).toNatClampNeg ||| (nI x <<< ((nI kk - nI 4) &&& 31))))
              rw [ec, ecl, s3, s4, pi_off (c := 8) (k := 7) (by decide), hkl]
              have eK : nI (tK T (tF T)) ||| (nI x <<< (nI (kk - 4) &&& 31)) = nI (if b = 35 then tK T (tF T) ||| 2 ^ tM T (tF T) else tK T (tF T)) := by
                apply b_ext
                intro i hi
                rw [b_or, hxx, u3]
                by_cases q : b = 35
                · rw [if_pos q, if_pos q, bt_shl1 (by omega) hi, bt_nI hi, bt_nI hi, Nat.testBit_or, Nat.testBit_two_pow]
                  congr 1
                  by_cases q : i = kk - 4
                  · simp [q]
                  · simp [q]; omega
                · rw [if_neg q, if_neg q, b_shl (kk - 4) (by omega) _ hi, b_n0]
                  simp
              rw [eK]
              refine go2 _ _ (hf.tr ((frM.pi (by decide) (by decide)).tr (frM.pi (by decide) (by decide)))) (by rw [pi_off (by decide)]; exact e7 _ _) (by rfl) htk (fun f hf8 => ?_)
              obtain ⟨t1, t2, t3, t4⟩ := hr f hf8
              refine ⟨fun h => ?_, fun h => ?_, fun h => ?_, fun h => ?_⟩
              · have h : f < tF T ∨ f = tF T ∧ 1 ≤ kk + 1 := h
                show _ = nI (tD T f) ∧ _ = nI (va_up (tK T) (tF T) (if b = 35 then tK T (tF T) ||| 2 ^ tM T (tF T) else tK T (tF T)) f)
                rw [pi_off (c := 7) (k := 8) (by decide), pi_ne (by omega), pi_at, pi_off (c := 8) (k := 7) (by decide)]
                have t1' := t1 (by omega)
                refine ⟨t1'.1, ?_⟩
                by_cases q : f = tF T
                · rw [q, if_pos rfl, up_eq]
                · rw [if_neg q, up_ne q]
                  exact t1'.2
              · have h : f < tF T ∨ f = tF T ∧ 2 ≤ kk + 1 := h
                rw [pi_off (c := 7) (k := 8) (by decide), pi_ne (by omega)]
                exact t2 (by omega)
              · have h : f < tF T ∨ f = tF T ∧ 4 ≤ kk + 1 := h
                rw [pi_off (c := 7) (k := 8) (by decide), pi_ne (by omega)]
                exact t3 (by omega)
              · have h : f < tF T ∨ f = tF T ∧ 5 ≤ kk + 1 := h
                show _ = nI (va_up (tM T) (tF T) (tM T (tF T) + 1) f)
                rw [pi_off (c := 7) (k := 8) (by decide), pi_at]
                by_cases q : f = tF T
                · rw [q, if_pos rfl, up_eq, u3]
                  exact congrArg nI (by omega)
                · rw [if_neg (by omega), up_ne q]
                  exact t4 (Or.inl (by omega))
          refine ev_X12_readsFigures [115] 100 ?_
          cases hv2 : v with
          | some x =>
            rw [hv2] at at115 hv
            have hF : tF T < 8 := by
              rcases Nat.lt_or_ge (tF T) 8 with q | q
              · exact q
              · rw [if_neg (by omega)] at hv
                cases hv
            rw [if_pos hF] at hv
            have hx10 := prt_lt b1 hv.symm
            refine vnt (fun z => ?_) ?_
            · have z : nI x = wrong := z
              have e := congrArg Int32.toInt z
              rw [nI_toInt (by omega)] at e
              have e9 : wrong.toInt = -9 := by decide
              omega
            · exact at115 (Or.inr ⟨x, rfl⟩)
          | none =>
            rw [hv2] at at115 hv
            refine vnf rfl ?_
            cases hnb2 : nb with
            | true =>
              rw [hnb2] at at115
              refine vnt n10 ?_
              exact at115 (Or.inl rfl)
            | false =>
              refine vnf rfl ?_
              refine bad ?_
              rw [hnb2] at hnb
              have hno : ¬ (b = 59 ∧ 5 ≤ kk) := fun q => by
                rw [decide_eq_true q.1, decide_eq_true q.2] at hnb
                cases hnb
              rw [hnx, if_neg hno]
              have htk : tk T kk b = none := by
                by_cases hF : tF T < 8
                · rw [if_pos hF] at hv
                  rw [prt_tk hF hwf hte, ← hv]
                · unfold tk
                  rw [if_neg hF]
              rw [htk]
        refine ev_X12_readsFigures [94] 100 ?_
        have hr7 : (σ' 0).1 7 = nI (tF T) := hr7
        by_cases hF : tF T < 8
        · refine vf (by rw [hr7]; exact nnle 8 (tF T) hF (by decide)) ?_
          by_cases k2 : kk = 2
          · subst k2
            have h32 := hwf.2.2.2.2.2.1 (Nat.le_refl 2)
            have hpl := (hr (tF T) hF).2.1 (Or.inr ⟨rfl, Nat.le_refl 2⟩)
            have i1 : nI (4 * tF T) + nI 1 = nI (4 * tF T + 1) := nI_add _ 1
            refine vnf rfl ?_
            refine And.intro (by rw [i1]; exact nin (4 * tF T + 1) 32 (by omega) (by decide)) ?_
            have ev : (σ' 7).1 (nI (4 * tF T) + nI 1).toNatClampNeg = nI (tP T (tF T)) := by
              rw [i1, nI_clamp (n := 4 * tF T + 1) (by omega)]
              exact hpl
            have hpp := fun σ : qw_M => r_partOf (σ := σ) (k := 2) (b := b) (tens := tP T (tF T)) (by decide) b1 h32
            simp only [← ev] at hpp
            refine ⟨trivial, _, hpp _, fun z σ2 ⟨k1, k2⟩ => ?_⟩
            have k1 := k1.symm
            subst k1
            cases k2
            refine at94 _ ?_
            rw [if_pos hF]
            have h32' : tP T (tF T) < 32 := h32
            show prt 2 b _ = prt 2 b (tP T (tF T))
            first | rfl | (congr 1)
          · refine vnt (nne kk 2 k2 (by omega) (by omega)) ?_
            refine ⟨trivial, _, r_partOf (k := kk) (b := b) (tens := 0) (by omega) b1 (by decide), fun z σ2 ⟨k1, k2'⟩ => ?_⟩
            have k1 := k1.symm
            subst k1
            cases k2'
            refine at94 _ ?_
            rw [if_pos hF, if_neg k2]
        · refine vt (by rw [hr7]; exact nle 8 (tF T) (by omega) (by omega)) ?_
          exact at94 none (by rw [if_neg hF])
      refine qw_Ev.sub (ev_X12_readsFigures [16, 54, 263] 100 ?_) hls
      refine vf (nnle n j (by omega) (by omega)) ?_
      refine And.intro (nin j 264 (by omega) (by decide)) ?_
      rw [nI_clamp (n := j) (by omega), hb]
      have hr7' : (σ' 0).1 7 = nI (tF T) := hr7
      have eat : nI 4 * (σ' 0).1 7 = nI (4 * tF T) := by rw [hr7', pk_mul]
      by_cases k5 : 5 ≤ kk
      · refine vf (nnle kk 4 (by omega) (by omega)) ?_
        by_cases q : b = 59
        · refine vnf (by rw [q]) ?_
          have := at54 true (by rw [decide_eq_true q, decide_eq_true k5]; rfl)
          rw [← eat] at this
          exact this
        · refine vnt (nne b 59 q (by omega) (by omega)) ?_
          have := at54 false (by rw [decide_eq_false q]; rfl)
          rw [← eat] at this
          exact this
      · refine vt (nle kk 4 (by omega) (by omega)) ?_
        have := at54 false (by rw [decide_eq_false k5]; simp)
        rw [← eat] at this
        exact this
  refine ev_X12_readsFigures [16] 100 ?_
  refine And.intro (nin 0 3 (by decide) (by decide)) ?_
  have e60 : (qw_pi σ 0 7 (nI 0) 6).1 (nI 0).toNatClampNeg = nI n := by rw [pi_off (by decide)]; exact h6
  show E_X12_readsFigures Q 16 [(0, .ref 0), (1, .int ((qw_pi σ 0 7 (nI 0) 6).1 (nI 0).toNatClampNeg)), (2, .int (nI 0)), (3, .int (nI 0))] [] (qw_pi σ 0 7 (nI 0))
  rw [e60]
  refine loop n 0 _ _ (T00, 0) _ _ (by omega) rfl rfl (frM.p0 (by decide)) rfl pi_eq (fun f hf => ⟨fun h => ?_, fun h => ?_, fun h => ?_, fun h => ?_⟩) (sub_pre rfl)
  · have h : f < 0 ∨ f = 0 ∧ 1 ≤ 0 := h
    omega
  · have h : f < 0 ∨ f = 0 ∧ 2 ≤ 0 := h
    omega
  · have h : f < 0 ∨ f = 0 ∧ 4 ≤ 0 := h
    omega
  · have h : f < 0 ∨ f = 0 ∧ 5 ≤ 0 := h
    omega
