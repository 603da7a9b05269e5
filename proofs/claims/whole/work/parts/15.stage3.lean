/-! Stage: covers, light, touching -/
theorem rb (b : Bool) : nI b.toNat = 0 ↔ b = false := by
  cases b
  · exact ⟨fun _ => rfl, fun _ => rfl⟩
  · exact ⟨fun h => absurd h (by decide), fun h => by cases h⟩
theorem m_work {T : TT} {σ : qw_M} (hT : tr σ T) (hr : ry σ) {f L d p : Nat} (hf : f < tF T) (hL : L < 32) (h1 : 1 ≤ d) (h8 : d ≤ 8) (hp : p < 32) (hpl : (σ 24).1 f = nI p) : qw_Mt qw_tw wC my_X8_workOutCover [.ref 21, .int (nI f), .int (nI (ridx L d p))] σ (fun r σ' => σ' = σ ∧ ∃ x, r = some (.int x) ∧ ∀ c, c < 32 → bt x c = over L d p (tK T f) c) := by
  obtain ⟨⟨hF, hok⟩, -, htr⟩ := hT
  obtain ⟨-, -, -, -, hM1, hM6, hKM⟩ := hok f hf
  obtain ⟨-, -, -, -, hK⟩ := htr f hf
  have hi := ridx_lt hL h1 h8 hp
  refine mt_X8_workOutCover rfl ?_
  have loop : ∀ (n m : Nat) (x acc : Int32), m + n = 6 → p + m ≤ 32 → x = nI m → (∀ c, c < 32 → bt acc c = (decide (p ≤ ray L d c) && decide (ray L d c - p < m) && (tK T f).testBit (ray L d c - p))) →
      E_X8_workOutCover (fun r σ' => σ' = σ ∧ ∃ x, r = some (.int x) ∧ ∀ c, c < 32 → bt x c = over L d p (tK T f) c) 5 [(0, .ref 21), (1, .int (nI f)), (2, .int (nI (ridx L d p))), (3, .int acc), (4, .int x)] [] σ := by
    intro n
    induction n with
    | zero =>
      intro m x acc hm hpm hx hb
      subst hx
      refine ev_X8_workOutCover [5] 100 ?_
      refine vt (nle 6 m (by omega) (by omega)) ?_
      refine ⟨rfl, acc, rfl, fun c hc => ?_⟩
      rw [hb c hc]
      unfold over
      by_cases h : ray L d c - p < m
      · simp [h]
      · have : (tK T f).testBit (ray L d c - p) = false := by
          apply Nat.testBit_lt_two_pow
          exact Nat.lt_of_lt_of_le hKM (Nat.pow_le_pow_right (by omega) (by omega))
        simp [this]
    | succ n ih =>
      intro m x acc hm hpm hx hb
      subst hx
      refine ev_X8_workOutCover [5] 100 ?_
      refine vf (nnle 6 m (by omega) (by omega)) ?_
      refine And.intro (nin f 8 (by omega) (by omega)) ?_
      have e24 : (σ 24).1 (nI f).toNatClampNeg + nI m = nI (p + m) := by rw [nI_clamp (by omega), hpl, nI_add]
      by_cases hpm2 : p + m < 32
      · refine vf (by rw [e24]; exact nnle 32 (p + m) (by omega) (by omega)) ?_
        refine And.intro (nin f 8 (by omega) (by omega)) ?_
        have ec : ((σ 13).1 (nI f).toNatClampNeg >>> (nI m &&& 31)) &&& nI 1 = nI ((tK T f).testBit m).toNat := by
          rw [nI_clamp (by omega), hK, bt_s (by omega), bt_nI (by omega)]
        refine vb (fun a => ?_) (fun a => ?_)
        · rw [ec, rb] at a
          refine ih (m + 1) _ acc (by omega) (by omega) (nI_add m 1) (fun c hc => ?_)
          rw [hb c hc]
          by_cases h : ray L d c - p = m
          · rw [h, a]
            simp
          · have : (ray L d c - p < m ↔ ray L d c - p < m + 1) := by omega
            simp [this]
        · rw [ec, rb] at a
          have a : (tK T f).testBit m = true := by simpa using a
          refine vf (nI_pos (by omega)) ?_
          have e2 : ridx L d p + m = ridx L d (p + m) := by unfold ridx; omega
          have hi2 := ridx_lt hL h1 h8 hpm2
          refine vf (by rw [nI_add]; exact nnle 8192 (ridx L d p + m) (by omega) (by omega)) ?_
          refine And.intro (by rw [nI_add]; exact nin (ridx L d p + m) 8192 (by omega) (by omega)) ?_
          refine ih (m + 1) _ _ (by omega) (by omega) (nI_add m 1) (fun c hc => ?_)
          rw [b_or, hb c hc, nI_add, nI_clamp (by omega), e2, hr L d (p + m) c hL h1 h8 hpm2 hc]
          by_cases h : ray L d c = p + m
          · have e3 : ray L d c - p = m := by omega
            have e4 : p ≤ ray L d c := by omega
            simp [h, a]
          · by_cases h5 : p ≤ ray L d c
            · have : (ray L d c - p < m ↔ ray L d c - p < m + 1) := by omega
              simp [this, h]
            · simp [h5, h]
      · refine vt (by rw [e24]; exact nle 32 (p + m) (by omega) (by omega)) ?_
        refine ⟨rfl, acc, rfl, fun c hc => ?_⟩
        rw [hb c hc]
        unfold over
        have hR := ray_lt hL h8 hc
        have h : ray L d c - p < m ∨ ¬ p ≤ ray L d c := by omega
        rcases h with h | h <;> simp [h]
  refine ev_X8_workOutCover [5] 100 ?_
  refine loop 6 0 _ _ rfl (by omega) rfl (fun c hc => ?_)
  have h0 : bt (nI 0) c = false := b_0 c
  rw [h0]
  simp
theorem m_coverOf {T : TT} {σ : qw_M} (hT : tr σ T) (hr : ry σ) (hc : ca σ T) {d p q : Nat → Nat} (hs : sg σ (tF T) d p q) {L : Nat} (hL : sl σ L) {f : Nat} (hf8 : f < 8) : qw_Mt qw_tw wC my_X8_coverOf [.ref 21, .int (nI f)] σ (fun r σ' => fr [26, 27] σ σ' ∧ ca σ' T ∧ ∃ x, r = some (.int x) ∧ ∀ c, c < 32 → bt x c = (decide (f < tF T) && over L (d f) (p f) (tK T f) c)) := by
  have hin : vp_in (nI f) 8 := nin f 8 (by omega) (by omega)
  refine mt_X8_coverOf rfl (ev_X8_coverOf [] 100 ?_)
  refine ⟨trivial, _, m_has hT _, fun x σ' _ ⟨h1, h2⟩ => ?_⟩
  have h1 := h1.symm
  subst h1
  rcases h2 with ⟨g, hg, e, h2⟩ | ⟨h2, h3⟩
  · cases h2
    have hfg : f = g := nI_i (by omega) (by have := hT.1.1; omega) e
    subst hfg
    obtain ⟨s1, s2, s3, s4, s5, s6, s7⟩ := hs f hg
    have hi := ridx_lt hL.1 s1 s2 s3
    refine vnt (by decide) ?_
    refine And.intro hin ?_
    refine And.intro hin ?_
    refine ⟨trivial, fun r σ' => σ' = σ ∧ r = some (.int (nI (ridx L (d f) (p f)))), ?_, fun x σ' h => ?_⟩
    · rw [nI_clamp (by omega)]
      show qw_Mt qw_tw wC my_X8_rayTo [.int ((σ 21).1 8), .int ((σ 23).1 f), .int ((σ 24).1 f)] σ _
      rw [hL.2, s5, s6]
      exact m_rayTo s1
    obtain ⟨h1, h2⟩ := h
    cases h2
    have h1 := h1.symm
    subst h1
    refine And.intro hin ?_
    refine vb (fun a => ?_) (fun a => ?_)
    · refine And.intro hin ?_
      refine ⟨fr.rf, hc, _, rfl, fun c hc32 => ?_⟩
      rw [nI_clamp (by omega)] at a ⊢
      rcases hc f hf8 with z | ⟨L2, d2, p2, z1, z2, z3, z4, z5, z6, z7⟩
      · rw [z] at a
        exact absurd a.symm (nI_m1 (by omega))
      · rw [z6] at a
        have hi2 := ridx_lt z2 z3 z4 z5
        obtain ⟨rfl, e2, e3⟩ := ridx_inj z3 z4 z5 s1 s2 s3 (nI_i (by omega) (by omega) a)
        rw [z7 c hc32, e2, e3]
        simp [hg]
    · refine And.intro hin ?_
      have hσ : fr [26] σ (qw_pi σ 26 f (nI (ridx L (d f) (p f)))) := fr.pi (by simp)
      refine ⟨trivial, fun r σ' => σ' = qw_pi σ 26 f (nI (ridx L (d f) (p f))) ∧ ∃ x, r = some (.int x) ∧ ∀ c, c < 32 → bt x c = over L (d f) (p f) (tK T f) c, ?_, fun x σ' h => ?_⟩
      · rw [nI_clamp (by omega)]
        exact m_work (hT.fr hσ (by intro k _ _; simp; omega)) (hr.fr hσ (by decide)) hg hL.1 s1 s2 s3 (by rw [hσ 24 (by decide)]; exact s6)
      obtain ⟨h1, y, h2, h3⟩ := h
      cases h2
      have h1 := h1.symm
      subst h1
      refine And.intro hin ?_
      refine And.intro hin ?_
      rw [nI_clamp (by omega)]
      refine ⟨hσ.mo (by simp) |>.tr (fr.pi (by simp)), ?_, _, rfl, fun c hc32 => ?_⟩
      · intro g hg8
        by_cases e : g = f
        · subst e
          refine Or.inr ⟨L, d g, p g, hg, hL.1, s1, s2, s3, ?_, fun c hc32 => ?_⟩
          · rw [pi_off (by decide)]
            exact pi_eq
          · rw [pi_eq]
            exact h3 c hc32
        · have e1 : (qw_pi (qw_pi σ 26 f (nI (ridx L (d f) (p f)))) 27 f x 26).1 g = (σ 26).1 g := by rw [pi_off (by decide), pi_ne e]
          have e2 : (qw_pi (qw_pi σ 26 f (nI (ridx L (d f) (p f)))) 27 f x 27).1 g = (σ 27).1 g := by rw [pi_ne e, pi_off (by decide)]
          rw [e1, e2]
          exact hc g hg8
      · rw [pi_eq, h3 c hc32]
        simp [hg]
  · cases h3
    refine vnf rfl ?_
    refine ⟨fr.rf, hc, _, rfl, fun c hc => ?_⟩
    have : ¬ f < tF T := fun z => h2 f z rfl
    have h0 : bt (nI 0) c = false := b_0 c
    rw [h0]
    simp [this]
