/-! Troupe.has and Stage: where FIGURES are, which CELLS they COVER, how these are lit.
T: how many figures, their depths, places, colours, marks, cards (bits) as told -/
abbrev TT : Type := Nat × (Nat → Nat) × (Nat → Nat) × (Nat → Nat) × (Nat → Nat) × (Nat → Nat)
abbrev tF (T : TT) : Nat := T.1
abbrev tD (T : TT) : Nat → Nat := T.2.1
abbrev tP (T : TT) : Nat → Nat := T.2.2.1
abbrev tC (T : TT) : Nat → Nat := T.2.2.2.1
abbrev tM (T : TT) : Nat → Nat := T.2.2.2.2.1
abbrev tK (T : TT) : Nat → Nat := T.2.2.2.2.2
/-- what a told figure may be -/
def okT (T : TT) : Prop := tF T ≤ 8 ∧ ∀ f, f < tF T → 1 ≤ tD T f ∧ tD T f ≤ 8 ∧ tP T f < 32 ∧ tC T f < 4 ∧ 1 ≤ tM T f ∧ tM T f ≤ 6 ∧ tK T f < 2 ^ tM T f
def tr (σ : qw_M) (T : TT) : Prop := okT T ∧ (σ 8).1 5 = nI (tF T) ∧ ∀ f, f < tF T → (σ 9).1 f = nI (tD T f) ∧ (σ 10).1 f = nI (tP T f) ∧ (σ 11).1 f = nI (tC T f) ∧ (σ 12).1 f = nI (tM T f) ∧ (σ 13).1 f = nI (tK T f)
theorem tr.fr {σ σ' : qw_M} {T : TT} {l : List Nat} (h : tr σ T) (hf : fr l σ σ') (hl : ∀ k, 8 ≤ k → k ≤ 13 → k ∉ l) : tr σ' T := by
  obtain ⟨h1, h2, h3⟩ := h
  refine ⟨h1, by rw [hf 8 (hl 8 (by omega) (by omega))]; exact h2, fun f hk => ?_⟩
  rw [hf 9 (hl 9 (by omega) (by omega)), hf 10 (hl 10 (by omega) (by omega)), hf 11 (hl 11 (by omega) (by omega)), hf 12 (hl 12 (by omega) (by omega)), hf 13 (hl 13 (by omega) (by omega))]
  exact h3 f hk
/-- the stage: depths, places, colours of the figures as they are now -/
def sg (σ : qw_M) (F : Nat) (d p q : Nat → Nat) : Prop := ∀ f, f < F → 1 ≤ d f ∧ d f ≤ 8 ∧ p f < 32 ∧ q f < 4 ∧ (σ 23).1 f = nI (d f) ∧ (σ 24).1 f = nI (p f) ∧ (σ 25).1 f = nI (q f)
def sl (σ : qw_M) (L : Nat) : Prop := L < 32 ∧ (σ 21).1 8 = nI L
theorem sg.fr {σ σ' : qw_M} {F : Nat} {d p q : Nat → Nat} {l : List Nat} (h : sg σ F d p q) (hf : fr l σ σ') (hl : ∀ k, 23 ≤ k → k ≤ 25 → k ∉ l) : sg σ' F d p q := by
  intro f hk
  rw [hf 23 (hl 23 (by omega) (by omega)), hf 24 (hl 24 (by omega) (by omega)), hf 25 (hl 25 (by omega) (by omega))]
  exact h f hk
theorem sl.fr {σ σ' : qw_M} {L : Nat} {l : List Nat} (h : sl σ L) (hf : fr l σ σ') (hl : 21 ∉ l) : sl σ' L := ⟨h.1, by rw [hf 21 hl]; exact h.2⟩
/-- where the ray from the lamp to a cell goes, at a depth -/
def ray (L d c : Nat) : Nat := ((8 - d) * L + 4 + d * c) / 8
theorem ray_lt {L d c : Nat} (hL : L < 32) (hd : d ≤ 8) (hc : c < 32) : ray L d c < 32 := by
  unfold ray
  have h1 : (8 - d) * L ≤ (8 - d) * 31 := Nat.mul_le_mul_left _ (by omega)
  have h2 : d * c ≤ d * 31 := Nat.mul_le_mul_left _ (by omega)
  have h3 : (8 - d) * 31 + d * 31 = 248 := by rw [← Nat.add_mul, Nat.sub_add_cancel hd]
  omega
def ridx (L d p : Nat) : Nat := (L * 8 + d - 1) * 32 + p
def ry (σ : qw_M) : Prop := ∀ L d p c, L < 32 → 1 ≤ d → d ≤ 8 → p < 32 → c < 32 → bt ((σ 22).1 (ridx L d p)) c = decide (ray L d c = p)
theorem ry.fr {σ σ' : qw_M} {l : List Nat} (h : ry σ) (hf : fr l σ σ') (hl : 22 ∉ l) : ry σ' := by
  unfold ry
  rw [hf 22 hl]
  exact h
/-- whether a figure at a depth and a place covers a cell -/
def over (L d p K c : Nat) : Bool := decide (p ≤ ray L d c) && K.testBit (ray L d c - p)
/-- what is kept of covers -/
def ca (σ : qw_M) (T : TT) : Prop := ∀ f, f < 8 → (σ 26).1 f = Int32.ofInt (Int.negSucc 0) ∨ ∃ L d p, f < tF T ∧ L < 32 ∧ 1 ≤ d ∧ d ≤ 8 ∧ p < 32 ∧ (σ 26).1 f = nI (ridx L d p) ∧ ∀ c, c < 32 → bt ((σ 27).1 f) c = over L d p (tK T f) c
theorem ca.fr {σ σ' : qw_M} {T : TT} {l : List Nat} (h : ca σ T) (hf : fr l σ σ') (hl : 26 ∉ l ∧ 27 ∉ l) : ca σ' T := by
  unfold ca
  rw [hf 26 hl.1, hf 27 hl.2]
  exact h
theorem ridx_lt {L d p : Nat} (hL : L < 32) (h1 : 1 ≤ d) (hd : d ≤ 8) (hp : p < 32) : ridx L d p < 8192 := by unfold ridx; omega
theorem ridx_inj {L d p L2 d2 p2 : Nat} (h1 : 1 ≤ d) (hd : d ≤ 8) (hp : p < 32) (h12 : 1 ≤ d2) (hd2 : d2 ≤ 8) (hp2 : p2 < 32) (h : ridx L d p = ridx L2 d2 p2) : L = L2 ∧ d = d2 ∧ p = p2 := by
  unfold ridx at h
  omega
theorem nI_i {a b : Nat} (ha : a < 2 ^ 31) (hb : b < 2 ^ 31) (h : nI a = nI b) : a = b := (nI_eq ha hb).mp h
theorem nI_m1 {a : Nat} (ha : a < 2 ^ 31) : nI a ≠ Int32.ofInt (Int.negSucc 0) := fun h => by
  have h1 := nI_pos (n := a) ha
  rw [h] at h1
  exact h1 (by decide)
theorem m_has {T : TT} {σ : qw_M} (hT : tr σ T) (i : Int32) : qw_Mt qw_tw wC my_X9_has [.ref 8, .int i] σ (fun r σ' => σ' = σ ∧ ((∃ f, f < tF T ∧ i = nI f ∧ r = some (.int (nI 1))) ∨ ((∀ f, f < tF T → i ≠ nI f) ∧ r = some (.int (nI 0))))) := by
  obtain ⟨⟨hF, -⟩, hn, -⟩ := hT
  refine mt_X9_has rfl (ev_X9_has [] 100 ?_)
  refine vb (fun a => ?_) (fun a => ?_)
  · exact ⟨Or.inl rfl, rfl, Or.inr ⟨fun j hj e => by subst e; exact nI_pos (by omega) a, rfl⟩⟩
  · refine vb (fun b => ?_) (fun b => ?_)
    · rw [hn] at b
      exact ⟨Or.inl rfl, rfl, Or.inr ⟨fun j hj e => by subst e; exact nI_ge hj (by omega) b, rfl⟩⟩
    · rw [hn] at b
      obtain ⟨j, hj, rfl⟩ := nI_of a
      have hjn : j < tF T := by
        rcases Nat.lt_or_ge j (tF T) with q | q
        · exact q
        · exact absurd (nI_le q hj) b
      refine vf (nnle 8 j (by omega) (by omega)) ?_
      exact ⟨Or.inr rfl, rfl, Or.inl ⟨j, hjn, rfl, rfl⟩⟩
theorem m_rayTo {L d p : Nat} (hd : 1 ≤ d) {σ : qw_M} : qw_Mt qw_tw wC my_X8_rayTo [.int (nI L), .int (nI d), .int (nI p)] σ (fun r σ' => σ' = σ ∧ r = some (.int (nI (ridx L d p)))) := by
  refine mt_X8_rayTo rfl (ev_X8_rayTo [] 100 ?_)
  refine ⟨rfl, ?_⟩
  show some (Value.int ((nI L * nI 8 + nI d - nI 1) * nI 32 + nI p)) = _
  rw [pk_mul, nI_add, pk_sub (by omega), pk_mul, nI_add]
  rfl
theorem m_forgetCovers {σ : qw_M} {T : TT} : qw_Mt qw_tw wC my_X8_forgetCovers [.ref 21] σ (fun _ σ' => fr [26] σ σ' ∧ ca σ' T) := by
  refine mt_X8_forgetCovers rfl ?_
  have loop : ∀ (n j : Nat) (x : Int32) (σ' : qw_M), j + n = 8 → x = nI j → fr [26] σ σ' → (∀ f, f < j → (σ' 26).1 f = Int32.ofInt (Int.negSucc 0)) → E_X8_forgetCovers (fun _ σ' => fr [26] σ σ' ∧ ca σ' T) 2 [(0, .ref 21), (1, .int x)] [] σ' := by
    intro n
    induction n with
    | zero =>
      intro j x σ' hj hx hf hs
      subst hx
      refine ev_X8_forgetCovers [2] 100 ?_
      refine vt (nle 8 j (by omega) (by omega)) ?_
      exact ⟨hf, fun f hf8 => Or.inl (hs f (by omega))⟩
    | succ n ih =>
      intro j x σ' hj hx hf hs
      subst hx
      refine ev_X8_forgetCovers [2] 100 ?_
      refine vf (nnle 8 j (by omega) (by omega)) ?_
      refine And.intro (nin j 8 (by omega) (by omega)) ?_
      refine ih (j + 1) _ _ (by omega) (nI_add j 1) (hf.tr (fr.pi List.mem_cons_self)) (fun f hfj => ?_)
      rw [nI_clamp (by omega)]
      by_cases e : f = j
      · subst e
        exact pi_eq
      · rw [pi_ne e]
        exact hs f (by omega)
  refine ev_X8_forgetCovers [2] 100 ?_
  exact loop 8 0 _ _ rfl rfl fr.rf (fun f h => absurd h (Nat.not_lt_zero f))
theorem m_start {σ : qw_M} {T : TT} (hT : tr σ T) {L : Nat} (hL : L < 32) : qw_Mt qw_tw wC my_X8_start [.ref 21, .int (nI L)] σ (fun _ σ' => fr [21, 23, 24, 25] σ σ' ∧ sl σ' L ∧ sg σ' (tF T) (tD T) (tP T) (tC T)) := by
  refine mt_X8_start rfl ?_
  have loop : ∀ (n j : Nat) (x : Int32) (σ' : qw_M), j + n = 8 → x = nI j → fr [21, 23, 24, 25] σ σ' → (σ' 21).1 8 = nI L → (∀ f, f < j → (σ' 23).1 f = (σ 9).1 f ∧ (σ' 24).1 f = (σ 10).1 f ∧ (σ' 25).1 f = (σ 11).1 f) → E_X8_start (fun _ σ' => fr [21, 23, 24, 25] σ σ' ∧ sl σ' L ∧ sg σ' (tF T) (tD T) (tP T) (tC T)) 7 [(0, .ref 21), (1, .int (nI L)), (2, .int x)] [] σ' := by
    intro n
    induction n with
    | zero =>
      intro j x σ' hj hx hf hl hs
      subst hx
      refine ev_X8_start [7] 100 ?_
      refine vt (nle 8 j (by omega) (by omega)) ?_
      refine ⟨hf, ⟨hL, hl⟩, fun f hF => ?_⟩
      obtain ⟨⟨h1, h2⟩, h3, h4⟩ := hT
      obtain ⟨g1, g2, g3, g4, g5, g6, g7⟩ := h2 f hF
      obtain ⟨k1, k2, k3, k4, k5⟩ := h4 f hF
      obtain ⟨s1, s2, s3⟩ := hs f (by omega)
      exact ⟨g1, g2, g3, g4, by rw [s1, k1], by rw [s2, k2], by rw [s3, k3]⟩
    | succ n ih =>
      intro j x σ' hj hx hf hl hs
      subst hx
      refine ev_X8_start [7] 100 ?_
      refine vf (nnle 8 j (by omega) (by omega)) ?_
      refine And.intro (nin j 8 (by omega) (by omega)) ?_
      refine And.intro (nin j 8 (by omega) (by omega)) ?_
      refine And.intro (nin j 8 (by omega) (by omega)) ?_
      refine And.intro (nin j 8 (by omega) (by omega)) ?_
      refine And.intro (nin j 8 (by omega) (by omega)) ?_
      refine And.intro (nin j 8 (by omega) (by omega)) ?_
      refine ih (j + 1) _ _ (by omega) (nI_add j 1) (((hf.tr (fr.pi (by simp))).tr (fr.pi (by simp))).tr (fr.pi (by simp))) ?_ (fun f hfj => ?_)
      · rw [pi_off (by decide), pi_off (by decide), pi_off (by decide)]
        exact hl
      · rw [nI_clamp (by omega)]
        have e9 := hf 9 (by decide)
        have e10 := hf 10 (by decide)
        have e11 := hf 11 (by decide)
        by_cases e : f = j
        · subst e
          simp [pi_at, pi_off, e9, e10, e11]
        · obtain ⟨s1, s2, s3⟩ := hs f (by omega)
          simp [pi_at, pi_off, e, s1, s2, s3]
  refine ev_X8_start [7] 100 ?_
  refine loop 8 0 _ _ rfl rfl (fr.pi (by simp)) pi_eq (fun f h => absurd h (Nat.not_lt_zero f))
