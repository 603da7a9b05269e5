/-! Cues and Picture, read -/
abbrev CC : Type := Nat → Option (Nat × Nat)
def cuf (C : CC) (s : Nat) : Int32 := match C s with
  | some q => nI q.1
  | none => Int32.ofInt (Int.negSucc 0)
def cuw (C : CC) (s : Nat) : Int32 := match C s with
  | some q => nI q.2
  | none => Int32.ofInt (Int.negSucc 0)
/-- cues in the object k (14 those told, 39 the lots): its arrays lie behind it -/
def cu (σ : qw_M) (k : Nat) (C : CC) : Prop := (∀ s f w, C s = some (f, w) → f < 8 ∧ w < 4) ∧ ∃ n, n ≤ 20 ∧ (σ k).1 2 = nI n ∧ (∀ s, n ≤ s → C s = none) ∧ ∀ s, s < n → (σ (k + 1)).1 s = cuf C s ∧ (σ (k + 2)).1 s = cuw C s
theorem cu.fr {σ σ' : qw_M} {k : Nat} {C : CC} {l : List Nat} (h : cu σ k C) (hf : fr l σ σ') (h0 : k ∉ l) (h1 : k + 1 ∉ l) (h2 : k + 2 ∉ l) : cu σ' k C := by
  unfold cu
  rw [hf k h0, hf (k + 1) h1, hf (k + 2) h2]
  exact h
theorem cuf_none {C : CC} {s : Nat} (h : C s = none) : cuf C s = Int32.ofInt (Int.negSucc 0) := by simp only [cuf, h]
theorem cuw_none {C : CC} {s : Nat} (h : C s = none) : cuw C s = Int32.ofInt (Int.negSucc 0) := by simp only [cuw, h]
theorem m_figureOf {k : Nat} (hk : k = 14 ∨ k = 39) {σ : qw_M} {C : CC} (hC : cu σ k C) {s : Nat} (hs : s < 20) : qw_Mt qw_tw wC my_X1_figureOf [.ref k, .int (nI s)] σ (fun r σ' => σ' = σ ∧ r = some (.int (cuf C s))) := by
  obtain ⟨-, n, hn, h1, h2, h3⟩ := hC
  rcases hk with rfl | rfl
  all_goals
    refine mt_X1_figureOf rfl (ev_X1_figureOf [] 100 ?_)
    refine vf (nI_pos (by omega)) ?_
    by_cases c : s < n
    · refine vf (by rw [h1]; exact nnle n s c (by omega)) ?_
      refine vf (nnle 20 s (by omega) (by omega)) ?_
      refine And.intro (nin s 20 (by omega) (by omega)) ?_
      refine ⟨rfl, ?_⟩
      rw [nI_clamp (by omega), ← (h3 s c).1]
    · refine vt (by rw [h1]; exact nle n s (by omega) (by omega)) ?_
      refine ⟨rfl, ?_⟩
      rw [cuf_none (h2 s (by omega))]
theorem m_whitherOf {k : Nat} (hk : k = 14 ∨ k = 39) {σ : qw_M} {C : CC} (hC : cu σ k C) {s : Nat} (hs : s < 20) : qw_Mt qw_tw wC my_X1_whitherOf [.ref k, .int (nI s)] σ (fun r σ' => σ' = σ ∧ r = some (.int (cuw C s))) := by
  obtain ⟨-, n, hn, h1, h2, h3⟩ := hC
  rcases hk with rfl | rfl
  all_goals
    refine mt_X1_whitherOf rfl (ev_X1_whitherOf [] 100 ?_)
    refine vf (nI_pos (by omega)) ?_
    by_cases c : s < n
    · refine vf (by rw [h1]; exact nnle n s c (by omega)) ?_
      refine vf (nnle 20 s (by omega) (by omega)) ?_
      refine And.intro (nin s 20 (by omega) (by omega)) ?_
      refine ⟨rfl, ?_⟩
      rw [nI_clamp (by omega), ← (h3 s c).2]
    · refine vt (by rw [h1]; exact nle n s (by omega) (by omega)) ?_
      refine ⟨rfl, ?_⟩
      rw [cuw_none (h2 s (by omega))]
theorem m_steps {σ : qw_M} {C : CC} (hC : cu σ 14 C) : qw_Mt qw_tw wC my_X1_steps [.ref 14] σ (fun r σ' => σ' = σ ∧ ∃ x, r = some (.int x) ∧ ∀ i, i < 32 → bt x i = (C i).isSome) := by
  have hbig : ∀ i, 20 ≤ i → C i = none := by
    obtain ⟨-, n, hn, -, h2, -⟩ := hC
    exact fun i hi => h2 i (by omega)
  refine mt_X1_steps rfl ?_
  have loop : ∀ (n j : Nat) (x acc : Int32), j + n = 20 → x = nI j → (∀ i, i < 32 → bt acc i = (decide (i < j) && (C i).isSome)) →
      E_X1_steps (fun r σ' => σ' = σ ∧ ∃ x, r = some (.int x) ∧ ∀ i, i < 32 → bt x i = (C i).isSome) 4 [(0, .ref 14), (1, .int acc), (2, .int x)] [] σ := by
    intro n
    induction n with
    | zero =>
      intro j x acc hj hx hb
      subst hx
      refine ev_X1_steps [4] 100 ?_
      refine vt (nle 20 j (by omega) (by omega)) ?_
      refine ⟨rfl, acc, rfl, fun i hi => ?_⟩
      rw [hb i hi]
      by_cases h : i < j
      · simp [h]
      · simp [hbig i (by omega)]
    | succ n ih =>
      intro j x acc hj hx hb
      subst hx
      refine ev_X1_steps [4] 100 ?_
      refine vf (nnle 20 j (by omega) (by omega)) ?_
      refine ⟨trivial, _, m_figureOf (Or.inl rfl) hC (s := j) (by omega), fun x σ' ⟨h1, h2⟩ => ?_⟩
      cases h2
      have h1 := h1.symm
      subst h1
      cases hCj : C j with
      | none =>
        refine vt (cuf_none hCj) ?_
        refine ih (j + 1) _ acc (by omega) (nI_add j 1) (fun i hi => ?_)
        rw [hb i hi]
        by_cases h : i = j
        · subst h
          simp [hCj]
        · have : (i < j ↔ i < j + 1) := by omega
          simp [this]
      | some q =>
        have hq := hC.1 j q.1 q.2 hCj
        refine vf (by simp only [cuf, hCj]; exact nI_m1 (by omega)) ?_
        refine ih (j + 1) _ _ (by omega) (nI_add j 1) (fun i hi => ?_)
        rw [b_or, hb i hi, bt_shl1 (by omega) hi]
        by_cases h : i = j
        · subst h
          simp [hCj]
        · have : (i < j ↔ i < j + 1) := by omega
          simp [this, h]
  refine ev_X1_steps [4] 100 ?_
  refine loop 20 0 _ _ rfl rfl (fun i hi => ?_)
  have h0 : bt (nI 0) i = false := b_0 i
  rw [h0]
  simp
/-- THE PICTURE: what light each cell should have -/
def pic (σ : qw_M) (P : Nat → Option Nat) : Prop := ∃ W, gl σ 18 W ∧ ∀ c, c < 32 → bt ((σ 17).1 1) c = (P c).isSome ∧ ∀ v, P c = some v → W c = v
theorem pic.fr {σ σ' : qw_M} {P : Nat → Option Nat} {l : List Nat} (h : pic σ P) (hf : fr l σ σ') (h0 : 17 ∉ l) (h1 : 18 ∉ l) : pic σ' P := by
  obtain ⟨W, h2, h3⟩ := h
  exact ⟨W, h2.fr hf h1, by rw [hf 17 h0]; exact h3⟩
def pwr (P : Nat → Option Nat) (G : Nat → Nat) (c : Nat) : Bool := match P c with
  | some v => !(v == G c)
  | none => false
/-- by how many cells it is false; how many are told; whether it is shown -/
def pfa (P : Nat → Option Nat) (G : Nat → Nat) : Nat := cnt (pwr P G) 32
def ptl (P : Nat → Option Nat) : Nat := cnt (fun c => (P c).isSome) 32
def psh (P : Nat → Option Nat) (G : Nat → Nat) : Bool := decide (0 < ptl P) && decide (pfa P G = 0)
theorem cnt_zero {f : Nat → Bool} : ∀ {n : Nat}, cnt f n = 0 ↔ ∀ i, i < n → f i = false
  | 0 => ⟨fun _ i h => absurd h (Nat.not_lt_zero i), fun _ => rfl⟩
  | n + 1 => by
    have ih := cnt_zero (f := f) (n := n)
    constructor
    · intro h i hi
      have h1 : cnt f n + (f n).toNat = 0 := h
      have h2 : (f n).toNat = 0 := by omega
      rcases Nat.lt_or_ge i n with q | q
      · exact ih.mp (by omega) i q
      · have : i = n := by omega
        subst this
        cases hf : f i
        · rfl
        · rw [hf] at h2
          cases h2
    · intro h
      show cnt f n + (f n).toNat = 0
      rw [ih.mpr (fun i hi => h i (by omega)), h n (by omega)]
      rfl
theorem m_picLightOf {σ : qw_M} {P : Nat → Option Nat} (hP : pic σ P) {c : Nat} (hc : c < 32) : qw_Mt qw_tw wC my_X3_lightOf [.ref 17, .int (nI c)] σ (fun r σ' => σ' = σ ∧ r = some (.int (match P c with | some v => nI v | none => Int32.ofInt (Int.negSucc 0)))) := by
  obtain ⟨W, h1, h2⟩ := hP
  obtain ⟨h3, h4⟩ := h2 c hc
  refine mt_X3_lightOf rfl (ev_X3_lightOf [] 100 ?_)
  cases hPc : P c with
  | none =>
    refine vt (by rw [bt_u hc, rb, h3, hPc]; rfl) ?_
    exact ⟨rfl, rfl⟩
  | some v =>
    refine vf (by rw [bt_u hc, rb, h3, hPc]; simp) ?_
    refine ⟨trivial, _, m_lightOf (Or.inl rfl) h1 hc, fun x σ' ⟨k1, k2⟩ => ?_⟩
    cases k2
    refine ⟨k1, ?_⟩
    rw [h4 v hPc]
theorem m_falseBy {σ : qw_M} {P : Nat → Option Nat} (hP : pic σ P) {G : Nat → Nat} (hG : gl σ 28 G) : qw_Mt qw_tw wC my_X3_falseBy [.ref 17, .ref 28] σ (fun r σ' => σ' = σ ∧ r = some (.int (nI (pfa P G)))) := by
  obtain ⟨W, h1, h2⟩ := hP
  have key : ∀ v, v < 8 → ∀ g, g < 8 → ((some v).isSome && ((g.testBit 2 ^^ v.testBit 2) || (g.testBit 1 ^^ v.testBit 1) || (g.testBit 0 ^^ v.testBit 0))) = !(v == g) := by decide +kernel
  refine mt_X3_falseBy rfl (ev_X3_falseBy [] 100 ?_)
  refine ⟨trivial, _, m_bitCount _, fun x σ' ⟨k1, k2⟩ => ?_⟩
  cases k2
  refine ⟨k1, ?_⟩
  show some (Value.int _) = _
  congr 3
  refine cnt_congr (fun c hc => ?_)
  obtain ⟨w0, w1, w2, w3⟩ := h1 c hc
  obtain ⟨g0, g1, g2, g3⟩ := hG c hc
  obtain ⟨h3, h4⟩ := h2 c hc
  show bt ((σ 17).1 1 &&& ((((σ 28).1 0) ^^^ ((σ 18).1 0)) ||| (((σ 28).1 1) ^^^ ((σ 18).1 1)) ||| (((σ 28).1 2) ^^^ ((σ 18).1 2)))) c = _
  rw [b_and, b_or, b_or, b_xor, b_xor, b_xor, h3, w1, w2, w3, g1, g2, g3]
  unfold pwr
  cases hPc : P c with
  | none => rfl
  | some v =>
    rw [h4 v hPc] at w0 ⊢
    exact key v w0 (G c) g0
theorem m_isShownBy {σ : qw_M} {P : Nat → Option Nat} (hP : pic σ P) {G : Nat → Nat} (hG : gl σ 28 G) : qw_Mt qw_tw wC my_X3_isShownBy [.ref 17, .ref 28] σ (fun r σ' => σ' = σ ∧ r = some (.int (nI (psh P G).toNat))) := by
  have hz : (σ 17).1 1 = 0 ↔ ptl P = 0 := by
    obtain ⟨W, h1, h2⟩ := hP
    constructor
    · intro h
      refine cnt_zero.mpr (fun i hi => ?_)
      rw [← (h2 i hi).1, h]
      exact b_0 i
    · intro h
      apply b_ext
      intro i hi
      rw [(h2 i hi).1, cnt_zero.mp h i hi]
      exact (b_0 i).symm
  have hp32 : pfa P G ≤ 32 := cnt_le _ 32
  refine mt_X3_isShownBy rfl (ev_X3_isShownBy [] 100 ?_)
  by_cases h : ptl P = 0
  · refine vt (hz.mpr h) ?_
    refine ⟨Or.inl rfl, rfl, ?_⟩
    simp [psh, h]
  · refine vf (fun z => h (hz.mp z)) ?_
    refine ⟨trivial, _, m_falseBy hP hG, fun x σ' ⟨k1, k2⟩ => ?_⟩
    cases k2
    by_cases h3 : pfa P G = 0
    · refine vnf (by rw [h3]; rfl) ?_
      refine ⟨Or.inr rfl, k1, ?_⟩
      have : 0 < ptl P := by omega
      simp [psh, h3, this]
    · refine vnt (nI_ne0 (by omega) (by omega)) ?_
      refine ⟨Or.inl rfl, k1, ?_⟩
      simp [psh, h3]
