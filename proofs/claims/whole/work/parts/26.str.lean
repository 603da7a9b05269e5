/-! "krgb".indexOf, "lrfb".indexOf -/
def kol (b : Nat) : Option Nat := if b = 107 then some 0 else if b = 114 then some 1 else if b = 103 then some 2 else if b = 98 then some 3 else none
def way (b : Nat) : Option Nat := if b = 108 then some 0 else if b = 114 then some 1 else if b = 102 then some 2 else if b = 98 then some 3 else none
theorem by_eq : ∀ b, b < 256 → ((nI b).toInt8.toInt32 = 107 ↔ b = 107) ∧ ((nI b).toInt8.toInt32 = 114 ↔ b = 114) ∧ ((nI b).toInt8.toInt32 = 103 ↔ b = 103) ∧ ((nI b).toInt8.toInt32 = 98 ↔ b = 98) ∧ ((nI b).toInt8.toInt32 = 108 ↔ b = 108) ∧ ((nI b).toInt8.toInt32 = 102 ↔ b = 102) := by decide +kernel
def sx (k : Nat) (b : Nat) : Option Nat := if k = 51 then kol b else way b
theorem m_ixc {k : Nat} (hk : k = 51 ∨ k = 52) {b : Nat} (hb : b < 256) {σ : qw_M} : qw_Mt qw_tw wC my_J1_indexOfChar [.ref k, .int (nI b), .int (nI 0), .int (nI 4)] σ (fun r σ' => σ' = σ ∧ r = some (.int (obi (sx k b)))) := by
  obtain ⟨a1, a2, a3, a4, a5, a6⟩ := by_eq b hb
  rcases hk with rfl | rfl
  · generalize hQ : (fun (r : Option Value) (σ' : qw_M) => σ' = σ ∧ r = some (.int (obi (sx 51 b)))) = Q
    have st0 : ∀ i, i < 4 → ((qw_nth (qw_nth [[107, 114, 103, 98], [108, 114, 102, 98]] (51 - 51) []) i 0 : Int32) = (nI b).toInt8.toInt32 → Q (some (.int (nI i))) σ) → (¬ (qw_nth (qw_nth [[107, 114, 103, 98], [108, 114, 102, 98]] (51 - 51) []) i 0 : Int32) = (nI b).toInt8.toInt32 → E_J1_indexOfChar Q 7 [(0, .ref 51), (1, .int (nI b)), (2, .int (nI 0)), (3, .int (nI 4)), (4, .int (nI b).toInt8.toInt32), (5, .int (nI (i + 1)))] [] σ) → E_J1_indexOfChar Q 7 [(0, .ref 51), (1, .int (nI b)), (2, .int (nI 0)), (3, .int (nI 4)), (4, .int (nI b).toInt8.toInt32), (5, .int (nI i))] [] σ := fun i hi h1 h2 => by
      refine ev_J1_indexOfChar [7] 100 ?_
      refine vf (nnle 4 i hi (by omega)) ?_
      refine And.intro (nin i 4 hi (by omega)) ?_
      rw [nI_clamp (n := i) (by omega)]
      refine vnb (fun q => ?_) (fun q => ?_)
      · have h3 := h2 q
        rw [← nI_add i 1] at h3
        exact h3
      · exact h1 q
    refine mt_J1_indexOfChar (Q := Q) rfl (ev_J1_indexOfChar [7] 100 ?_)
    refine st0 0 (by omega) (fun q => ?_) (fun q0 => ?_)
    · have c : b = 107 := a1.mp q.symm
      subst hQ
      refine ⟨rfl, ?_⟩
      rw [c]
      rfl
    refine st0 1 (by omega) (fun q => ?_) (fun q1 => ?_)
    · have c : b = 114 := a2.mp q.symm
      subst hQ
      refine ⟨rfl, ?_⟩
      rw [c]
      rfl
    refine st0 2 (by omega) (fun q => ?_) (fun q2 => ?_)
    · have c : b = 103 := a3.mp q.symm
      subst hQ
      refine ⟨rfl, ?_⟩
      rw [c]
      rfl
    refine st0 3 (by omega) (fun q => ?_) (fun q3 => ?_)
    · have c : b = 98 := a4.mp q.symm
      subst hQ
      refine ⟨rfl, ?_⟩
      rw [c]
      rfl
    refine ev_J1_indexOfChar [7] 100 ?_
    refine vt (Int32.le_refl _) ?_
    subst hQ
    refine ⟨rfl, ?_⟩
    have h0 : sx 51 b = none := by
      show kol b = none
      unfold kol
      rw [if_neg (fun c => q0 (a1.mpr c).symm), if_neg (fun c => q1 (a2.mpr c).symm), if_neg (fun c => q2 (a3.mpr c).symm), if_neg (fun c => q3 (a4.mpr c).symm)]
    rw [h0]
    rfl
  · generalize hQ : (fun (r : Option Value) (σ' : qw_M) => σ' = σ ∧ r = some (.int (obi (sx 52 b)))) = Q
    have st0 : ∀ i, i < 4 → ((qw_nth (qw_nth [[107, 114, 103, 98], [108, 114, 102, 98]] (52 - 51) []) i 0 : Int32) = (nI b).toInt8.toInt32 → Q (some (.int (nI i))) σ) → (¬ (qw_nth (qw_nth [[107, 114, 103, 98], [108, 114, 102, 98]] (52 - 51) []) i 0 : Int32) = (nI b).toInt8.toInt32 → E_J1_indexOfChar Q 7 [(0, .ref 52), (1, .int (nI b)), (2, .int (nI 0)), (3, .int (nI 4)), (4, .int (nI b).toInt8.toInt32), (5, .int (nI (i + 1)))] [] σ) → E_J1_indexOfChar Q 7 [(0, .ref 52), (1, .int (nI b)), (2, .int (nI 0)), (3, .int (nI 4)), (4, .int (nI b).toInt8.toInt32), (5, .int (nI i))] [] σ := fun i hi h1 h2 => by
      refine ev_J1_indexOfChar [7] 100 ?_
      refine vf (nnle 4 i hi (by omega)) ?_
      refine And.intro (nin i 4 hi (by omega)) ?_
      rw [nI_clamp (n := i) (by omega)]
      refine vnb (fun q => ?_) (fun q => ?_)
      · have h3 := h2 q
        rw [← nI_add i 1] at h3
        exact h3
      · exact h1 q
    refine mt_J1_indexOfChar (Q := Q) rfl (ev_J1_indexOfChar [7] 100 ?_)
    refine st0 0 (by omega) (fun q => ?_) (fun q0 => ?_)
    · have c : b = 108 := a5.mp q.symm
      subst hQ
      refine ⟨rfl, ?_⟩
      rw [c]
      rfl
    refine st0 1 (by omega) (fun q => ?_) (fun q1 => ?_)
    · have c : b = 114 := a2.mp q.symm
      subst hQ
      refine ⟨rfl, ?_⟩
      rw [c]
      rfl
    refine st0 2 (by omega) (fun q => ?_) (fun q2 => ?_)
    · have c : b = 102 := a6.mp q.symm
      subst hQ
      refine ⟨rfl, ?_⟩
      rw [c]
      rfl
    refine st0 3 (by omega) (fun q => ?_) (fun q3 => ?_)
    · have c : b = 98 := a4.mp q.symm
      subst hQ
      refine ⟨rfl, ?_⟩
      rw [c]
      rfl
    refine ev_J1_indexOfChar [7] 100 ?_
    refine vt (Int32.le_refl _) ?_
    subst hQ
    refine ⟨rfl, ?_⟩
    have h0 : sx 52 b = none := by
      show way b = none
      unfold way
      rw [if_neg (fun c => q0 (a5.mpr c).symm), if_neg (fun c => q1 (a2.mpr c).symm), if_neg (fun c => q2 (a6.mpr c).symm), if_neg (fun c => q3 (a4.mpr c).symm)]
    rw [h0]
    rfl
theorem m_canEncode {b : Nat} (hb : b < 256) {σ : qw_M} : qw_Mt qw_tw wC my_J1_canEncode [.int (nI b)] σ (fun r σ' => σ' = σ ∧ r = some (.int (nI 1))) := by
  refine mt_J1_canEncode rfl (ev_J1_canEncode [] 100 ?_)
  refine vf (nnlt b 0 (by omega) (by omega)) ?_
  refine vf (nnlt 255 b (by omega) (by omega)) ?_
  exact ⟨Or.inr rfl, rfl, rfl⟩
theorem m_ix1 {k : Nat} (hk : k = 51 ∨ k = 52) {b : Nat} (hb : b < 256) {σ : qw_M} : qw_Mt qw_tw wC my_J1_indexOf [.ref k, .int (nI b), .int (nI 0), .int (nI 4)] σ (fun r σ' => σ' = σ ∧ r = some (.int (obi (sx k b)))) := by
  rcases hk with rfl | rfl
  all_goals
    refine mt_J1_indexOf rfl (ev_J1_indexOf [] 100 ?_)
    refine ⟨trivial, _, m_canEncode hb, fun z σ1 _ ⟨k1, k2⟩ => ?_⟩
    cases k2
    have k1 := k1.symm
    subst k1
    refine vnt (by decide) ?_
    refine ⟨trivial, _, m_max _ _, fun z σ1 ⟨k1, k2⟩ => ?_⟩
    have k1 := k1.symm
    subst k1
    have k2 : z = nI 0 := Value.int.inj (Option.some.inj k2)
    subst k2
    refine ⟨trivial, _, m_min _ _, fun z σ1 ⟨k1, k2⟩ => ?_⟩
    have k1 := k1.symm
    subst k1
    have k2 : z = nI 4 := Value.int.inj (Option.some.inj k2)
    subst k2
    refine vt (by decide) ?_
    refine ⟨trivial, _, m_ixc (by first | exact Or.inl rfl | exact Or.inr rfl) hb, fun z σ1 ⟨k1, k2⟩ => ?_⟩
    have k1 := k1.symm
    subst k1
    exact ⟨rfl, k2⟩
theorem m_isLatin1 {k : Nat} (hk : k = 53 ∨ k = 54) {σ : qw_M} : qw_Mt qw_tw wC my_J0_isLatin1 [.ref k] σ (fun r σ' => σ' = σ ∧ r = some (.int (nI 1))) := by
  rcases hk with rfl | rfl
  all_goals
    refine mt_J0_isLatin1 rfl (ev_J0_isLatin1 [] 100 ?_)
    refine vf (by decide) ?_
    refine vnf rfl ?_
    exact ⟨Or.inr rfl, rfl, rfl⟩
theorem m_coder {k : Nat} (hk : k = 53 ∨ k = 54) {σ : qw_M} : qw_Mt qw_tw wC my_J0_coder [.ref k] σ (fun r σ' => σ' = σ ∧ r = some (.int (nI 0))) := by
  rcases hk with rfl | rfl
  all_goals
    refine mt_J0_coder rfl (ev_J0_coder [] 100 ?_)
    refine vf (by decide) ?_
    exact ⟨rfl, rfl, rfl⟩
theorem m_slen {k : Nat} (hk : k = 53 ∨ k = 54) {σ : qw_M} : qw_Mt qw_tw wC my_J0_length [.ref k] σ (fun r σ' => σ' = σ ∧ r = some (.int (nI 4))) := by
  rcases hk with rfl | rfl
  all_goals
    refine mt_J0_length rfl (ev_J0_length [] 100 ?_)
    refine ⟨trivial, _, m_coder (by first | exact Or.inl rfl | exact Or.inr rfl), fun z σ1 ⟨k1, k2⟩ => ?_⟩
    have k1 := k1.symm
    subst k1
    cases k2
    exact ⟨rfl, rfl⟩
theorem m_ix3 {k : Nat} (hk : k = 53 ∨ k = 54) {b : Nat} (hb : b < 256) {σ : qw_M} : qw_Mt qw_tw wC my_J0_indexOf_III [.ref k, .int (nI b), .int (nI 0)] σ (fun r σ' => σ' = σ ∧ r = some (.int (obi (sx (k - 2) b)))) := by
  rcases hk with rfl | rfl
  all_goals
    refine mt_J0_indexOf_III rfl (ev_J0_indexOf_III [] 100 ?_)
    refine ⟨trivial, _, m_isLatin1 (by first | exact Or.inl rfl | exact Or.inr rfl), fun z σ1 _ ⟨k1, k2⟩ => ?_⟩
    have k1 := k1.symm
    subst k1
    cases k2
    refine vf (by decide) ?_
    refine ⟨trivial, _, m_slen (by first | exact Or.inl rfl | exact Or.inr rfl), fun z σ1 ⟨k1, k2⟩ => ?_⟩
    have k1 := k1.symm
    subst k1
    cases k2
    refine ⟨trivial, _, m_ix1 (by first | exact Or.inl rfl | exact Or.inr rfl) hb, fun z σ1 ⟨k1, k2⟩ => ?_⟩
    have k1 := k1.symm
    subst k1
    exact ⟨rfl, k2⟩
theorem m_ixs {k : Nat} (hk : k = 53 ∨ k = 54) {b : Nat} (hb : b < 256) {σ : qw_M} : qw_Mt qw_tw wC my_J0_indexOf [.ref k, .int (nI b)] σ (fun r σ' => σ' = σ ∧ r = some (.int (obi (sx (k - 2) b)))) := by
  rcases hk with rfl | rfl
  all_goals
    refine mt_J0_indexOf rfl (ev_J0_indexOf [] 100 ?_)
    refine ⟨trivial, _, m_ix3 (by first | exact Or.inl rfl | exact Or.inr rfl) hb, fun z σ1 ⟨k1, k2⟩ => ?_⟩
    have k1 := k1.symm
    subst k1
    exact ⟨rfl, k2⟩
theorem chr {b : Nat} (hb : b < 256) : ((nI b).toUInt32 % 65536).toInt32 = nI b := by
  rw [pk_char]
  congr 1
  show (BitVec.ofNat 32 b).toNat % 65536 = b
  rw [BitVec.toNat_ofNat]
  omega
