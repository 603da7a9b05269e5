/-! The whole class: its state, as told -/
abbrev AS : Type := (Nat → Nat) × (Nat → Nat → Nat) × Nat × (Nat × (Nat → Nat)) × (Nat × (Nat → Nat)) × (Nat → PG) × Nat
def aN (A : AS) : Nat → Nat := A.1
def aB (A : AS) : Nat → Nat → Nat := A.2.1
def aL (A : AS) : Nat := A.2.2.1
def aKn (A : AS) : Nat := A.2.2.2.1.1
def aKa (A : AS) : Nat → Nat := A.2.2.2.1.2
def aSn (A : AS) : Nat := A.2.2.2.2.1.1
def aSe (A : AS) : Nat → Nat := A.2.2.2.2.1.2
def aG (A : AS) : Nat → PG := A.2.2.2.2.2.1
def aFd (A : AS) : Nat := A.2.2.2.2.2.2
def aT (A : AS) : TT := fgT (aB A 0) (aN A 0)
def aC (A : AS) : CC := cuC (aB A 1) (aN A 1)
def aP (A : AS) : Nat → Option Nat := piP (aB A 2) (aN A 2)
def cap (t : Nat) : Nat := if t = 0 then 87 else if t = 1 then 40 else 32
def aF (A : AS) (t : Nat) : Option Nat := if t = 0 then fgF (aB A 0) (aN A 0) else if t = 1 then cfa (aB A 1) (aN A 1) else pfB (aB A 2) (aN A 2)
def shA (σ : qw_M) (A : AS) : Prop := sh σ (aT A) (aC A) (aP A) (aKn A) (aKa A) (aL A)
def KC (σ : qw_M) (A : AS) : Prop := (∀ t, t < 3 → aN A t ≤ cap t ∧ tx σ (2 * t + 1) (aN A t) (aB A t)) ∧ ((σ 8).1 6 = obi (aF A 0) ∧ (σ 14).1 3 = obi (aF A 1) ∧ (σ 17).1 2 = obi (aF A 2)) ∧ shA σ A ∧ si σ (aSn A) (aSe A) ∧ (∀ s, s < 4 → pg σ (43 + s) (aG A s)) ∧ ((σ 0).1 8 = nI (aFd A) ∧ aFd A ≤ 5)
/-- what is only worked with has changed -/
theorem KCfr {σ σ' : qw_M} {A : AS} (h : KC σ A) (hf : fr scA σ σ') (hs : shA σ' A) : KC σ' A := by
  obtain ⟨h1, ⟨h2, h3, h4⟩, -, h6, h7, h8, h9⟩ := h
  refine ⟨fun t ht => ⟨(h1 t ht).1, tx.fr (h1 t ht).2 hf ?_ ?_⟩, ⟨?_, ?_, ?_⟩, hs, h6.fr hf (by unfold scA; decide) (by unfold scA; decide), fun s hs4 => (h7 s hs4).fr hf ?_ ?_, ?_, h9⟩
  · unfold scA; simp; omega
  · unfold scA; simp; omega
  · rw [hf 8 (by unfold scA; decide)]; exact h2
  · rw [hf 14 (by unfold scA; decide)]; exact h3
  · rw [hf 17 (by unfold scA; decide)]; exact h4
  · unfold scA; simp; omega
  · unfold scA; simp; omega
  · rw [hf 0 (by unfold scA; decide)]; exact h8
theorem KCfrs {σ σ' : qw_M} {A : AS} (h : KC σ A) (hf : fr scr σ σ') (hs : shA σ' A) : KC σ' A := KCfr h (scr_A hf) hs
/-- an argument below n -/
def nn (x : Int32) (n : Nat) : Option Nat := if (0 : Int32) ≤ x ∧ x < nI n then some x.toNatClampNeg else none
theorem nn_nI {j n : Nat} (h : j < n) (hn : n < 2 ^ 31) : nn (nI j) n = some j := by
  unfold nn
  have h0 : (0 : Int32) ≤ nI j := nle 0 j (Nat.zero_le _) (by omega)
  rw [if_pos ⟨h0, nlt j n h hn⟩, nI_clamp (by omega)]
theorem nn_some {x : Int32} {n j : Nat} (hn : n < 2 ^ 31) (h : nn x n = some j) : j < n ∧ x = nI j := by
  unfold nn at h
  split at h
  · rename_i q
    obtain ⟨i, hi, rfl⟩ := nI_of (x := x) (by
      intro z
      exact absurd q.1 (Int32.not_le.mpr z))
    cases h
    rw [nI_clamp hi]
    refine ⟨?_, rfl⟩
    rcases Nat.lt_or_ge i n with z | z
    · exact z
    · exact absurd q.2 (nnlt i n z hi)
  · cases h
theorem nn_none {x : Int32} {n : Nat} (hn : n < 2 ^ 31) (h : nn x n = none) : ∀ j, j < n → x ≠ nI j := by
  intro j hj e
  rw [e, nn_nI hj hn] at h
  cases h
theorem nn_out {x : Int32} {n : Nat} (hn : n < 2 ^ 31) (h : ∀ j, j < n → x ≠ nI j) : nn x n = none := by
  cases q : nn x n with
  | none => rfl
  | some j =>
    obtain ⟨q1, q2⟩ := nn_some hn q
    exact absurd q2 (h j q1)
theorem m_isBelow (x : Int32) {n : Nat} (hn : n < 2 ^ 31) {σ : qw_M} : qw_Mt qw_tw wC my_X11_isBelow [.int x, .int (nI n)] σ (fun r σ' => σ' = σ ∧ r = some (.int (nI (nn x n).isSome.toNat))) := by
  refine mt_X11_isBelow rfl (ev_X11_isBelow [] 100 ?_)
  refine vb (fun a => ?_) (fun a => ?_)
  · rw [nn_out hn (fun j hj e => by subst e; exact nI_pos (by omega) a)]
    exact ⟨Or.inl rfl, rfl, rfl⟩
  · obtain ⟨j, hj, rfl⟩ := nI_of a
    refine vb (fun b => ?_) (fun b => ?_)
    · rw [nn_out hn (fun i hi e => by
        have e := nI_i hj (by omega) e
        subst e
        exact nI_ge hi (by omega) b)]
      exact ⟨Or.inl rfl, rfl, rfl⟩
    · have : j < n := by
        rcases Nat.lt_or_ge j n with q | q
        · exact q
        · exact absurd (nI_le q hj) b
      rw [nn_nI this hn]
      exact ⟨Or.inr rfl, rfl, rfl⟩
theorem m_hasn {T : TT} {σ : qw_M} (hT : tr σ T) (i : Int32) : qw_Mt qw_tw wC my_X9_has [.ref 8, .int i] σ (fun r σ' => σ' = σ ∧ r = some (.int (nI (nn i (tF T)).isSome.toNat))) := by
  have hF := hT.1.1
  refine mt_mono (m_has hT i) (fun r σ' ⟨h1, h2⟩ => ⟨h1, ?_⟩)
  rcases h2 with ⟨f, hf, e, h2⟩ | ⟨h2, h3⟩
  · rw [e, nn_nI hf (by omega), h2]
    rfl
  · rw [nn_out (by omega) h2, h3]
    rfl
abbrev bad : Int32 := Int32.ofInt (Int.negSucc 1)
/-! parse of the whole -/
theorem m_oparse0 {σ : qw_M} {T : TT} {C : CC} {P : Nat → Option Nat} {n : Nat} {a : Nat → Nat} {L : Nat} (h : sh σ T C P n a L) {B : Nat → Nat} {m : Nat} (hm : m ≤ 87) (ht : tx σ 1 m B) : qw_Mt qw_tw wC my_X11_parse [.ref 0, .int (nI 0)] σ (fun _ σ' => fr [8, 9, 10, 11, 12, 13, 26] σ σ' ∧ (σ' 8).1 6 = obi (fgF B m) ∧ sh σ' (fgT B m) C P n a L) := by
  refine mt_X11_parse rfl (ev_X11_parse [67] 100 ?_)
  refine vnf rfl ?_
  refine ⟨trivial, _, m_tparse hm ht, fun σ1 ⟨f1, g1, t1⟩ => ?_⟩
  refine ⟨trivial, _, m_forgetCovers (T := fgT B m), fun σ2 ⟨f2, c2⟩ => ?_⟩
  refine ev_X11_parse [] 100 ?_
  obtain ⟨h1, h2, h3, h4, h5, h6, h7⟩ := h
  have fA : fr [8, 9, 10, 11, 12, 13, 26] σ σ2 := (f1.mo (by decide)).tr (f2.mo (by decide))
  refine ⟨fA, by rw [f2 8 (by decide)]; exact g1, t1.fr f2 (by intro k _ _; simp; omega), h2.fr fA (by decide) (by decide) (by decide), h3.fr fA (by decide) (by decide), h4.fr fA (by decide) (by decide), ⟨h5.1, by rw [fA 7 (by decide)]; exact h5.2⟩, h6.fr fA (by decide), c2⟩
theorem m_oparse1 {σ : qw_M} {T : TT} {C : CC} {P : Nat → Option Nat} {n : Nat} {a : Nat → Nat} {L : Nat} (h : sh σ T C P n a L) {B : Nat → Nat} {m : Nat} (hm : m ≤ 40) (ht : tx σ 3 m B) : qw_Mt qw_tw wC my_X11_parse [.ref 0, .int (nI 1)] σ (fun _ σ' => fr [14, 15, 16] σ σ' ∧ (σ' 14).1 3 = obi (cfa B m) ∧ sh σ' T (cuC B m) P n a L) := by
  refine mt_X11_parse rfl (ev_X11_parse [67] 100 ?_)
  refine vnt (by decide) ?_
  refine vnf rfl ?_
  refine ⟨trivial, _, m_cparse hm ht, fun σ1 ⟨fA, g1, t1⟩ => ?_⟩
  refine ev_X11_parse [] 100 ?_
  obtain ⟨h1, h2, h3, h4, h5, h6, h7⟩ := h
  exact ⟨fA, g1, h1.fr fA (by intro k _ _; simp; omega), t1, h3.fr fA (by decide) (by decide), h4.fr fA (by decide) (by decide), ⟨h5.1, by rw [fA 7 (by decide)]; exact h5.2⟩, h6.fr fA (by decide), h7.fr fA (by decide)⟩
theorem m_oparse2 {σ : qw_M} {T : TT} {C : CC} {P : Nat → Option Nat} {n : Nat} {a : Nat → Nat} {L : Nat} (h : sh σ T C P n a L) {B : Nat → Nat} {m : Nat} (hm : m ≤ 32) (ht : tx σ 5 m B) : qw_Mt qw_tw wC my_X11_parse [.ref 0, .int (nI 2)] σ (fun _ σ' => fr [17, 18] σ σ' ∧ (σ' 17).1 2 = obi (pfB B m) ∧ sh σ' T C (piP B m) n a L) := by
  refine mt_X11_parse rfl (ev_X11_parse [67] 100 ?_)
  refine vnt (by decide) ?_
  refine vnt (by decide) ?_
  refine ⟨trivial, _, m_pparse hm ht, fun σ1 ⟨fA, g1, t1⟩ => ?_⟩
  refine ev_X11_parse [] 100 ?_
  obtain ⟨h1, h2, h3, h4, h5, h6, h7⟩ := h
  exact ⟨fA, g1, h1.fr fA (by intro k _ _; simp; omega), h2.fr fA (by decide) (by decide) (by decide), t1, h4.fr fA (by decide) (by decide), ⟨h5.1, by rw [fA 7 (by decide)]; exact h5.2⟩, h6.fr fA (by decide), h7.fr fA (by decide)⟩
/-- another text t -/
def stx (A : AS) (t n : Nat) (B : Nat → Nat) : AS := (fun u => if u = t then n else aN A u, fun u => if u = t then B else aB A u, A.2.2)
theorem m_reparse {σ σ1 : qw_M} {A : AS} (h : KC σ A) {t : Nat} (ht : t < 3) {n : Nat} {B : Nat → Nat} (hf : fr [2 * t + 1, 2 * t + 2] σ σ1) (hx : tx σ1 (2 * t + 1) n B) (hn : n ≤ cap t) : qw_Mt qw_tw wC my_X11_parse [.ref 0, .int (nI t)] σ1 (fun _ σ' => KC σ' (stx A t n B)) := by
  obtain ⟨h1, ⟨h2, h3, h4⟩, h5, h6, h7, h8, h9⟩ := h
  have hsh : shA σ1 A := shfrc h5 hf (fun k a b c => by simp; omega) (by simp; omega)
  have q8 : (σ1 8).1 6 = obi (aF A 0) := by rw [hf 8 (by simp; omega)]; exact h2
  have q14 : (σ1 14).1 3 = obi (aF A 1) := by rw [hf 14 (by simp; omega)]; exact h3
  have q17 : (σ1 17).1 2 = obi (aF A 2) := by rw [hf 17 (by simp; omega)]; exact h4
  have q6 : si σ1 (aSn A) (aSe A) := h6.fr hf (by simp; omega) (by simp; omega)
  have q7 : ∀ s, s < 4 → pg σ1 (43 + s) (aG A s) := fun s hs => (h7 s hs).fr hf (by simp; omega) (by simp; omega)
  have q9 : (σ1 0).1 8 = nI (aFd A) := by rw [hf 0 (by simp)]; exact h8
  have q1 : ∀ u, u < 3 → (stx A t n B).1 u ≤ cap u ∧ tx σ1 (2 * u + 1) ((stx A t n B).1 u) ((stx A t n B).2.1 u) := fun u hu => by
    show (if u = t then n else aN A u) ≤ cap u ∧ tx σ1 (2 * u + 1) (if u = t then n else aN A u) (if u = t then B else aB A u)
    by_cases e : u = t
    · subst e
      rw [if_pos rfl, if_pos rfl]
      exact ⟨hn, hx⟩
    · rw [if_neg e, if_neg e]
      exact ⟨(h1 u hu).1, tx.fr (h1 u hu).2 hf (by simp; omega) (by simp; omega)⟩
  have fin : ∀ (l : List Nat) (σ' : qw_M), fr l σ1 σ' → (∀ k, k ∈ l → (8 ≤ k ∧ k ≤ 18) ∨ k = 26) → ((σ' 8).1 6 = obi (aF (stx A t n B) 0) ∧ (σ' 14).1 3 = obi (aF (stx A t n B) 1) ∧ (σ' 17).1 2 = obi (aF (stx A t n B) 2)) → shA σ' (stx A t n B) → KC σ' (stx A t n B) := fun l σ' f1 hl g1 g2 => by
    have no : ∀ k, ¬ ((8 ≤ k ∧ k ≤ 18) ∨ k = 26) → k ∉ l := fun k hk z => hk (hl k z)
    refine ⟨fun u hu => ⟨(q1 u hu).1, tx.fr (q1 u hu).2 f1 (no _ (by omega)) (no _ (by omega))⟩, g1, g2, q6.fr f1 (no _ (by omega)) (no _ (by omega)), fun s hs => (q7 s hs).fr f1 (no _ (by omega)) (no _ (by omega)), ?_, h9⟩
    rw [f1 0 (no _ (by omega))]
    exact q9
  have ht3 : t = 0 ∨ t = 1 ∨ t = 2 := by omega
  rcases ht3 with rfl | rfl | rfl
  · refine mt_mono (m_oparse0 hsh (m := n) (B := B) hn hx) (fun r σ' ⟨f1, g1, g2⟩ => ?_)
    refine fin _ σ' f1 (by decide) ⟨g1, ?_, ?_⟩ g2
    · rw [f1 14 (by decide)]; exact q14
    · rw [f1 17 (by decide)]; exact q17
  · refine mt_mono (m_oparse1 hsh (m := n) (B := B) hn hx) (fun r σ' ⟨f1, g1, g2⟩ => ?_)
    refine fin _ σ' f1 (by decide) ⟨?_, g1, ?_⟩ g2
    · rw [f1 8 (by decide)]; exact q8
    · rw [f1 17 (by decide)]; exact q17
  · refine mt_mono (m_oparse2 hsh (m := n) (B := B) hn hx) (fun r σ' ⟨f1, g1, g2⟩ => ?_)
    refine fin _ σ' f1 (by decide) ⟨?_, ?_, g1⟩ g2
    · rw [f1 8 (by decide)]; exact q8
    · rw [f1 14 (by decide)]; exact q14
