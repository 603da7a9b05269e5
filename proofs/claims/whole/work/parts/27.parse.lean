/-! The texts: cues and the picture -/
theorem m_ixh {k : Nat} (hk : k = 53 ∨ k = 54) {b : Nat} (hb : b < 256) {σ : qw_M} : qw_Mt qw_tw wC my_J0_indexOf [.ref k, .int ((nI b).toUInt32 % 65536).toInt32] σ (fun r σ' => σ' = σ ∧ r = some (.int (obi (sx (k - 2) b)))) := by
  rw [chr hb]
  exact m_ixs hk hb
/-- the bytes of a text -/
def tx (σ : qw_M) (k n : Nat) (B : Nat → Nat) : Prop := (σ k).1 1 = nI n ∧ ∀ i, i < n → B i < 256 ∧ (σ (k + 1)).1 i = nI (B i)
theorem tx.fr {σ σ' : qw_M} {k n : Nat} {B : Nat → Nat} {l : List Nat} (h : tx σ k n B) (hf : fr l σ σ') (h0 : k ∉ l) (h1 : k + 1 ∉ l) : tx σ' k n B := by
  unfold tx
  rw [hf k h0, hf (k + 1) h1]
  exact h
/-- the first that is not so -/
def ff (ok : Nat → Bool) : Nat → Option Nat
  | 0 => none
  | n + 1 => match ff ok n with
    | some p => some p
    | none => if ok n then none else some n
theorem ff_none {ok : Nat → Bool} : ∀ {n : Nat}, ff ok n = none ↔ ∀ i, i < n → ok i = true
  | 0 => ⟨fun _ i h => absurd h (Nat.not_lt_zero i), fun _ => rfl⟩
  | n + 1 => by
    have ih := ff_none (ok := ok) (n := n)
    constructor
    · intro h i hi
      simp only [ff] at h
      cases hf : ff ok n with
      | some p => rw [hf] at h; cases h
      | none =>
        rw [hf] at h
        rcases Nat.lt_or_ge i n with q | q
        · exact ih.mp hf i q
        · have : i = n := by omega
          subst this
          cases ho : ok i with
          | true => rfl
          | false => rw [ho] at h; cases h
    · intro h
      simp only [ff, ih.mpr (fun i hi => h i (by omega)), h n (by omega), if_true]
theorem ff_some {ok : Nat → Bool} {p : Nat} : ∀ {n : Nat}, p < n → (∀ i, i < p → ok i = true) → ok p = false → ff ok n = some p
  | 0, h, _, _ => absurd h (Nat.not_lt_zero p)
  | n + 1, h, h1, h2 => by
    rcases Nat.lt_or_ge p n with q | q
    · simp only [ff, ff_some q h1 h2]
    · have : p = n := by omega
      subst this
      simp only [ff, ff_none.mpr h1, h2]
      rfl
theorem ff_lt {ok : Nat → Bool} {p : Nat} : ∀ {n : Nat}, ff ok n = some p → p < n
  | 0, h => by cases h
  | n + 1, h => by
    simp only [ff] at h
    cases h2 : ff ok n with
    | some r =>
      rw [h2] at h
      cases h
      have := ff_lt h2
      omega
    | none =>
      rw [h2] at h
      by_cases ho : ok n = true
      · simp [ho] at h
      · simp [ho] at h
        omega
def cok (B : Nat → Nat) (i : Nat) : Bool := if i % 2 = 0 then decide (B i = 46) || (decide (97 ≤ B i) && decide (B i ≤ 104)) else (if B (i - 1) = 46 then decide (B i = 46) else (way (B i)).isSome)
/-- where the cues' text is wrong -/
def cfa (B : Nat → Nat) (n : Nat) : Option Nat := match ff (cok B) n with
  | some p => some p
  | none => if n % 2 = 1 then some n else none
def cuC (B : Nat → Nat) (n : Nat) : CC := fun s => if cfa B n = none ∧ s < n / 2 then (if B (2 * s) = 46 then none else match way (B (2 * s + 1)) with
  | some w => some (B (2 * s) - 97, w)
  | none => none) else none
def cfI (b : Nat) : Int32 := if b = 46 then m1 else nI (b - 97)
def cgI (b c : Nat) : Int32 := if b = 46 then m1 else obi (way c)
theorem obi_none : obi none = m1 := rfl
theorem obi_some (x : Nat) : obi (some x) = nI x := rfl
theorem way_lt {b w : Nat} (h : way b = some w) : w < 4 := by
  unfold way at h
  split at h
  · cases h; omega
  · split at h
    · cases h; omega
    · split at h
      · cases h; omega
      · split at h
        · cases h; omega
        · cases h
theorem kol_lt {b w : Nat} (h : kol b = some w) : w < 4 := by
  unfold kol at h
  split at h
  · cases h; omega
  · split at h
    · cases h; omega
    · split at h
      · cases h; omega
      · split at h
        · cases h; omega
        · cases h
/-- the rows behind the first i bytes -/
def crel (σ : qw_M) (B : Nat → Nat) (i : Nat) : Prop := ∀ s, (2 * s < i → (σ 15).1 s = cfI (B (2 * s))) ∧ (2 * s + 1 < i → (σ 16).1 s = cgI (B (2 * s)) (B (2 * s + 1))) ∧ (2 * s + 1 = i → (σ 16).1 s = m1)
theorem m_ctakes {σ : qw_M} {B : Nat → Nat} {i : Nat} (hi : i < 40) (hB : B i < 256) (hr : crel σ B i) (hok : ∀ j, j < i → cok B j = true) : qw_Mt qw_tw wC my_X1_takes [.ref 14, .int (nI i), .int (nI (B i))] σ (fun r σ' => fr [15, 16] σ σ' ∧ r = some (.int (nI (cok B i).toNat)) ∧ (cok B i = true → crel σ' B (i + 1))) := by
  generalize hQ : (fun (r : Option Value) (σ' : qw_M) => fr [15, 16] σ σ' ∧ r = some (.int (nI (cok B i).toNat)) ∧ (cok B i = true → crel σ' B (i + 1))) = Q
  refine mt_X1_takes (Q := Q) rfl (ev_X1_takes [16, 22, 47, 71, 75, 76, 77, 99] 100 ?_)
  have d2 : nI i / nI 2 = nI (i / 2) := pk_div (by omega) (by omega) (by omega)
  have r2 : nI i - nI i / nI 2 * nI 2 = nI (i % 2) := pk_rem (by omega) (by omega) (by omega)
  refine And.intro (by decide) ?_
  rw [d2]
  refine vf (nnlt (i / 2) 0 (by omega) (by omega)) ?_
  refine vt (nlt (i / 2) 20 (by omega) (by omega)) ?_
  refine ev_X1_takes [22, 47, 71, 75, 76, 77, 99] 100 ?_
  refine And.intro (by decide) ?_
  have r2' : nI i - nI i / nI 2 * nI 2 = nI (i % 2) := r2
  by_cases ev : i % 2 = 0
  · refine vnf (by rw [r2', ev]; rfl) ?_
    have hi2 : 2 * (i / 2) = i := by omega
    have hck : cok B i = (decide (B i = 46) || (decide (97 ≤ B i) && decide (B i ≤ 104))) := by unfold cok; rw [if_pos ev]
    -- the value put
    have put : ∀ v : Int32, v = (if 97 ≤ B i ∧ B i ≤ 104 then nI (B i - 97) else m1) → E_X1_takes Q 47 [(0, .ref 14), (1, .int (nI i)), (2, .int (nI (B i))), (3, .int (nI (i / 2)))] [.int v, .int (nI (i / 2)), .ref 15] σ := fun v hv => by
      refine ev_X1_takes [71, 75, 76, 77, 99] 100 ?_
      refine And.intro (nin (i / 2) 20 (by omega) (by omega)) ?_
      refine And.intro (nin (i / 2) 20 (by omega) (by omega)) ?_
      rw [nI_clamp (n := i / 2) (by omega)]
      refine And.intro (nin (i / 2) 20 (by omega) (by omega)) ?_
      have hf : fr [15, 16] σ (qw_pi (qw_pi σ 15 (i / 2) v) 16 (i / 2) m1) := (fr.pi (by decide)).tr (fr.pi (by decide))
      have g15 : (qw_pi (qw_pi σ 15 (i / 2) v) 16 (i / 2) m1 15).1 (i / 2) = v := by rw [pi_off (by decide), pi_eq]
      have fin : ∀ ok : Bool, ok = cok B i → Q (some (.int (nI ok.toNat))) (qw_pi (qw_pi σ 15 (i / 2) v) 16 (i / 2) m1) := fun ok ho => by
        subst hQ
        subst ho
        refine ⟨hf, rfl, fun hokk s => ⟨fun h1 => ?_, fun h1 => ?_, fun h1 => ?_⟩⟩
        · rw [pi_off (c := 15) (k := 16) (by decide), pi_at]
          by_cases q : s = i / 2
          · subst q
            rw [if_pos rfl, hi2, hv]
            unfold cfI
            rw [hck] at hokk
            by_cases q2 : B i = 46
            · rw [if_neg (by omega), if_pos q2]
            · rw [if_neg q2, if_pos]
              simp [q2] at hokk
              exact hokk
          · rw [if_neg q]
            exact (hr s).1 (by omega)
        · rw [pi_ne (q := s) (j := i / 2) (by omega), pi_off (c := 16) (k := 15) (by decide)]
          exact (hr s).2.1 (by omega)
        · rw [show s = i / 2 by omega, pi_eq]
      by_cases q1 : 97 ≤ B i ∧ B i ≤ 104
      · refine vnt ?_ ?_
        · rw [nI_clamp (n := i / 2) (by omega)]
          show ¬ (qw_pi (qw_pi σ 15 (i / 2) v) 16 (i / 2) m1 15).1 (i / 2) = m1
          rw [g15, hv, if_pos q1]
          exact nI_m1 (by omega)
        · refine ev_X1_takes [76, 77, 99] 100 ?_
          refine ev_X1_takes [77, 99] 100 ?_
          exact ⟨Or.inr rfl, fin true (by rw [hck]; simp [q1])⟩
      · refine vnf ?_ ?_
        · rw [nI_clamp (n := i / 2) (by omega)]
          show (qw_pi (qw_pi σ 15 (i / 2) v) 16 (i / 2) m1 15).1 (i / 2) = m1
          rw [g15, hv, if_neg q1]
        · by_cases q2 : B i = 46
          · refine vnf (by rw [q2]) ?_
            refine ev_X1_takes [76, 77, 99] 100 ?_
            refine ev_X1_takes [77, 99] 100 ?_
            exact ⟨Or.inr rfl, fin true (by rw [hck]; simp [q2])⟩
          · refine vnt (nne (B i) 46 q2 (by omega) (by omega)) ?_
            refine ev_X1_takes [76, 77, 99] 100 ?_
            refine ev_X1_takes [77, 99] 100 ?_
            exact ⟨Or.inl rfl, fin false (by rw [hck]; simp [q2]; omega)⟩
    refine ev_X1_takes [47, 71, 75, 76, 77, 99] 100 ?_
    by_cases q1 : B i < 97
    · refine vt (nlt (B i) 97 q1 (by omega)) ?_
      exact put _ (by rw [if_neg (by omega)])
    · refine vf (nnlt (B i) 97 (by omega) (by omega)) ?_
      by_cases q2 : 104 < B i
      · refine vt (nlt 104 (B i) q2 (by omega)) ?_
        exact put _ (by rw [if_neg (by omega)])
      · refine vf (nnlt 104 (B i) (by omega) (by omega)) ?_
        have e : nI (B i) - nI 97 = nI (B i - 97) := pk_sub (by omega)
        exact put _ (by rw [if_pos (by omega)]; exact e)
  · refine vnt (by rw [r2', show i % 2 = 1 by omega]; decide) ?_
    have hi2 : 2 * (i / 2) + 1 = i := by omega
    have hi3 : i - 1 = 2 * (i / 2) := by omega
    have hck : cok B i = (if B (2 * (i / 2)) = 46 then decide (B i = 46) else (way (B i)).isSome) := by unfold cok; rw [if_neg ev, hi3]
    have hprev := hok (2 * (i / 2)) (by omega)
    have h15 := (hr (i / 2)).1 (by omega)
    refine ev_X1_takes [99] 100 ?_
    refine And.intro (nin (i / 2) 20 (by omega) (by omega)) ?_
    rw [nI_clamp (n := i / 2) (by omega), h15]
    by_cases q1 : B (2 * (i / 2)) = 46
    · have e1 : cfI (B (2 * (i / 2))) = m1 := by unfold cfI; rw [if_pos q1]
      rw [e1]
      refine vnf rfl ?_
      have fin : ∀ ok : Bool, ok = cok B i → Q (some (.int (nI ok.toNat))) σ := fun ok ho => by
        subst hQ
        subst ho
        refine ⟨fr.rf, rfl, fun hokk s => ⟨fun h1 => (hr s).1 (by omega), fun h1 => ?_, fun h1 => by omega⟩⟩
        rcases Nat.lt_or_ge (2 * s + 1) i with q | q
        · exact (hr s).2.1 q
        · have e := (hr s).2.2 (by omega)
          rw [e]
          unfold cgI
          rw [show s = i / 2 by omega, if_pos q1]
      rw [if_pos q1] at hck
      by_cases q2 : B i = 46
      · refine vnf (by rw [q2]) ?_
        exact ⟨Or.inr rfl, fin true (by rw [hck]; simp [q2])⟩
      · refine vnt (nne (B i) 46 q2 (by omega) (by omega)) ?_
        exact ⟨Or.inl rfl, fin false (by rw [hck]; simp [q2])⟩
    · have hp : 97 ≤ B (2 * (i / 2)) ∧ B (2 * (i / 2)) ≤ 104 := by
        unfold cok at hprev
        rw [if_pos (by omega)] at hprev
        simp [q1] at hprev
        exact hprev
      have e1 : cfI (B (2 * (i / 2))) = nI (B (2 * (i / 2)) - 97) := by unfold cfI; rw [if_neg q1]
      rw [e1]
      refine vnt (nI_m1 (by omega)) ?_
      rw [if_neg q1] at hck
      refine ev_X1_takes [] 100 ?_
      refine ⟨trivial, _, m_ixh (k := 54) (Or.inr rfl) hB, fun z σ1 ⟨k1, k2⟩ => ?_⟩
      have k1 := k1.symm
      subst k1
      have k2 : z = obi (way (B i)) := Value.int.inj (Option.some.inj k2)
      subst k2
      refine And.intro (nin (i / 2) 20 (by omega) (by omega)) ?_
      rw [nI_clamp (n := i / 2) (by omega)]
      refine And.intro (nin (i / 2) 20 (by omega) (by omega)) ?_
      rw [nI_clamp (n := i / 2) (by omega), pi_eq]
      have fin : ∀ ok : Bool, ok = cok B i → Q (some (.int (nI ok.toNat))) (qw_pi σ 16 (i / 2) (obi (way (B i)))) := fun ok ho => by
        subst hQ
        subst ho
        refine ⟨fr.pi (by decide), rfl, fun hokk s => ⟨fun h1 => ?_, fun h1 => ?_, fun h1 => by omega⟩⟩
        · rw [pi_off (by decide)]
          exact (hr s).1 (by omega)
        · rw [pi_at]
          by_cases q : s = i / 2
          · subst q
            rw [if_pos rfl, hi2]
            unfold cgI
            rw [if_neg q1]
          · rw [if_neg q]
            exact (hr s).2.1 (by omega)
      cases hw : way (B i) with
      | none =>
        rw [hw] at fin
        refine vt (by decide) ?_
        exact ⟨Or.inl rfl, fin false (by rw [hck, hw]; rfl)⟩
      | some w =>
        rw [hw] at fin
        have := way_lt hw
        refine vf (nnlt w 0 (by omega) (by omega)) ?_
        exact ⟨Or.inr rfl, fin true (by rw [hck, hw]; rfl)⟩
theorem m_cparse {σ : qw_M} {B : Nat → Nat} {n : Nat} (hn : n ≤ 40) (ht : tx σ 3 n B) : qw_Mt qw_tw wC my_X1_parse [.ref 14, .ref 3] σ (fun _ σ' => fr [14, 15, 16] σ σ' ∧ (σ' 14).1 3 = obi (cfa B n) ∧ cu σ' 14 (cuC B n)) := by
  generalize hQ : (fun (_ : Option Value) (σ' : qw_M) => fr [14, 15, 16] σ σ' ∧ (σ' 14).1 3 = obi (cfa B n) ∧ cu σ' 14 (cuC B n)) = Q
  refine mt_X1_parse (Q := Q) rfl ?_
  -- from 47: behind the loop
  have fin : ∀ (ls : qw_L) (σ' : qw_M), fr [14, 15, 16] σ σ' → (σ' 14).1 3 = obi (ff (cok B) n) → (ff (cok B) n = none → crel σ' B n) → (∀ q ∈ [(0, Value.ref 14), (1, .ref 3)], q ∈ ls) → E_X1_parse Q 47 ls [] σ' := fun ls σ' hf hfa hr hls => by
    have hn3 : (σ' 3).1 1 = nI n := by rw [hf 3 (by decide)]; exact ht.1
    -- the end
    have fin2 : ∀ (f : Option Nat) (ls : qw_L) (σ2 : qw_M), fr [14, 15, 16] σ σ2 → f = cfa B n → (σ2 14).1 3 = obi f → (f = none → crel σ2 B n) → (∀ q ∈ [(0, Value.ref 14), (1, .ref 3)], q ∈ ls) → (∀ x, f = some x → x < 2 ^ 31) → E_X1_parse Q 72 ls [] σ2 := fun f ls σ2 g1 g2 g3 g4 g5 g6 => by
      have hn3 : (σ2 3).1 1 = nI n := by rw [g1 3 (by decide)]; exact ht.1
      refine qw_Ev.sub (ev_X1_parse [] 100 ?_) g5
      subst hQ
      cases f with
      | none =>
        refine vnf (by rw [g3]; rfl) ?_
        refine And.intro (by decide) ?_
        have hd : nI n / nI 2 = nI (n / 2) := pk_div (by omega) (by omega) (by omega)
        rw [hn3]
        have hd' : (nI n / 2 : Int32) = nI (n / 2) := hd
        refine ⟨g1.tr (fr.pi (by decide)), ?_, ?_⟩
        · rw [pi_ne (q := 3) (j := 2) (by decide), g3, g2]
        · have hok : ∀ i, i < n → cok B i = true := by
            have g2' := g2.symm
            unfold cfa at g2'
            cases hff : ff (cok B) n with
            | some p => rw [hff] at g2'; cases g2'
            | none => exact ff_none.mp hff
          have hev : n % 2 = 0 := by
            have g2' := g2.symm
            unfold cfa at g2'
            rw [ff_none.mpr hok] at g2'
            by_cases q : n % 2 = 1
            · simp [q] at g2'
            · omega
          have hrr := g4 rfl
          have cc : ∀ s, s < n / 2 → cuC B n s = (if B (2 * s) = 46 then none else match way (B (2 * s + 1)) with
  | some w => some (B (2 * s) - 97, w)
  | none => none) := fun s hs => by unfold cuC; rw [if_pos ⟨g2.symm, hs⟩]
          have hb1 : ∀ s, s < n / 2 → B (2 * s) ≠ 46 → 97 ≤ B (2 * s) ∧ B (2 * s) ≤ 104 := fun s hs q => by
            have := hok (2 * s) (by omega)
            unfold cok at this
            rw [if_pos (by omega)] at this
            simp [q] at this
            exact this
          have hb2 : ∀ s, s < n / 2 → B (2 * s) ≠ 46 → ∃ w, way (B (2 * s + 1)) = some w := fun s hs q => by
            have := hok (2 * s + 1) (by omega)
            unfold cok at this
            rw [if_neg (by omega), show 2 * s + 1 - 1 = 2 * s by omega, if_neg q] at this
            cases hw : way (B (2 * s + 1)) with
            | none => rw [hw] at this; cases this
            | some w => exact ⟨w, rfl⟩
          refine ⟨fun s f w hs => ?_, n / 2, by omega, by rw [pi_eq]; exact hd, fun s hs => ?_, fun s hs => ?_⟩
          · by_cases q : s < n / 2
            · rw [cc s q] at hs
              by_cases q2 : B (2 * s) = 46
              · rw [if_pos q2] at hs; cases hs
              · rw [if_neg q2] at hs
                obtain ⟨w2, hw2⟩ := hb2 s q q2
                rw [hw2] at hs
                cases hs
                have := hb1 s q q2
                exact ⟨by omega, way_lt hw2⟩
            · unfold cuC at hs
              rw [if_neg (by omega)] at hs
              cases hs
          · unfold cuC
            rw [if_neg (by omega)]
          · rw [pi_off (c := 14 + 1) (k := 14) (by decide), pi_off (c := 14 + 2) (k := 14) (by decide)]
            have e1 := (hrr s).1 (by omega)
            have e2 := (hrr s).2.1 (by omega)
            show (σ2 15).1 s = _ ∧ (σ2 16).1 s = _
            rw [e1, e2]
            unfold cfI cgI
            by_cases q2 : B (2 * s) = 46
            · simp only [cuf, cuw, cc s hs, if_pos q2, and_self]
            · obtain ⟨w2, hw2⟩ := hb2 s hs q2
              simp only [cuf, cuw, cc s hs, if_neg q2, hw2, obi_some, and_self]
      | some p =>
        refine vnt (by rw [g3]; exact nI_m1 (g6 p rfl)) ?_
        refine ⟨g1.tr (fr.pi (by decide)), ?_, ?_⟩
        · rw [pi_ne (q := 3) (j := 2) (by decide), g3, g2]
        · have c0 : ∀ s, cuC B n s = none := fun s => by
            unfold cuC
            rw [← g2, if_neg (by intro z; cases z.1)]
          exact ⟨fun s f w hs => (by rw [c0 s] at hs; cases hs), 0, by omega, pi_eq, fun s _ => c0 s, fun s hs => absurd hs (Nat.not_lt_zero s)⟩
    refine qw_Ev.sub (ev_X1_parse [72] 100 ?_) hls
    cases hff : ff (cok B) n with
    | some p =>
      rw [hff] at hfa
      have hp : p < n := by
        exact ff_lt hff
      refine vnt (by rw [hfa]; exact nI_m1 (by omega)) ?_
      exact fin2 (some p) _ σ' hf (by unfold cfa; rw [hff]) hfa (fun z => by cases z) (sub_pre rfl) (fun x hx => by cases hx; omega)
    | none =>
      rw [hff] at hfa
      refine vnf (by rw [hfa]; rfl) ?_
      refine And.intro (by decide) ?_
      have hrem : (σ' 3).1 1 - (σ' 3).1 1 / nI 2 * nI 2 = nI (n % 2) := by rw [hn3]; exact pk_rem (by omega) (by omega) (by omega)
      by_cases q : n % 2 = 1
      · refine vf ?_ ?_
        · intro z
          have z := hrem.symm.trans z
          rw [q] at z
          cases z
        · refine fin2 (some n) _ _ (hf.tr (fr.pi (by decide))) (by unfold cfa; rw [hff]; simp only [q, if_true]) (by rw [pi_eq, hn3]; rfl) (fun z => by cases z) (sub_pre rfl) (fun x hx => by cases hx; omega)
      · refine vt ?_ ?_
        · exact hrem.trans (by rw [show n % 2 = 0 by omega]; rfl)
        · exact fin2 none _ σ' hf (by unfold cfa; rw [hff]; simp only [q, if_false]) hfa (fun _ => hr hff) (sub_pre rfl) (fun x hx => by cases hx)
  have loop : ∀ (k j : Nat) (y : Int32) (σ' : qw_M), j + k = n → y = nI j → fr [14, 15, 16] σ σ' → (σ' 14).1 3 = m1 → (∀ i, i < j → cok B i = true) → crel σ' B j → E_X1_parse Q 7 [(0, .ref 14), (1, .ref 3), (2, .int y)] [] σ' := by
    intro k
    induction k with
    | zero =>
      intro j y σ' hj hy hf hfa hok hr
      subst hy
      have : j = n := by omega
      subst this
      have hn3 : (σ' 3).1 1 = nI j := by rw [hf 3 (by decide)]; exact ht.1
      refine ev_X1_parse [7, 47] 100 ?_
      refine vt (by rw [hn3]; exact Int32.le_refl _) ?_
      exact fin _ σ' hf (by rw [hfa, ff_none.mpr hok]; rfl) (fun _ => hr) (sub_pre rfl)
    | succ k ih =>
      intro j y σ' hj hy hf hfa hok hr
      subst hy
      have hn3 : (σ' 3).1 1 = nI n := by rw [hf 3 (by decide)]; exact ht.1
      refine ev_X1_parse [7, 41, 47] 100 ?_
      refine vf (by rw [hn3]; exact nnle n j (by omega) (by omega)) ?_
      refine vnf (by rw [hfa]) ?_
      refine ⟨trivial, _, m_item (k := 3) (N := 40) (by unfold qr_row; omega) hn3 hn _, fun x σ2 ⟨k1, k2⟩ => ?_⟩
      have k1 := k1.symm
      subst k1
      rcases k2 with ⟨i, hi, ee, k2⟩ | ⟨k2, -⟩
      · have : j = i := nI_i (by omega) (by omega) ee
        subst this
        obtain ⟨b1, b2⟩ := ht.2 j hi
        have b2' : (σ' (3 + 1)).1 j = nI (B j) := by rw [hf (3 + 1) (by decide)]; exact b2
        rw [b2'] at k2
        cases k2
        refine ⟨trivial, _, m_ctakes (by omega) b1 hr hok, fun x σ3 _ ⟨f3, k2, r3⟩ => ?_⟩
        cases k2
        have f3' : fr [14, 15, 16] σ σ3 := hf.tr (f3.mo (by decide))
        have hfa3 : (σ3 14).1 3 = m1 := by rw [f3 14 (by decide)]; exact hfa
        cases hc : cok B j with
        | true =>
          refine vnt (by decide) ?_
          refine ev_X1_parse [7] 100 ?_
          exact ih (j + 1) _ _ (by omega) (nI_add j 1) f3' hfa3 (fun i hi => by
            by_cases e : i = j
            · rw [e]; exact hc
            · exact hok i (by omega)) (r3 hc)
        | false =>
          refine vnf rfl ?_
          refine ev_X1_parse [7] 100 ?_
          -- the head once more
          have e1 : nI j + nI 1 = nI (j + 1) := nI_add j 1
          show E_X1_parse Q 7 [(0, .ref 14), (1, .ref 3), (2, .int (nI j + nI 1))] [] (qw_pi σ3 14 3 (nI j))
          rw [e1]
          have f4 : fr [14, 15, 16] σ (qw_pi σ3 14 3 (nI j)) := f3'.tr (fr.pi (by decide))
          have hn4 : (qw_pi σ3 14 3 (nI j) 3).1 1 = nI n := by rw [f4 3 (by decide)]; exact ht.1
          have hff : ff (cok B) n = some j := ff_some hi hok hc
          refine ev_X1_parse [7, 47] 100 ?_
          refine vb (fun _ => ?_) (fun _ => ?_)
          · exact fin _ _ f4 (by rw [pi_eq, hff]; rfl) (fun z => by rw [hff] at z; cases z) (sub_pre rfl)
          · refine vnt (by rw [pi_eq]; exact nI_m1 (by omega)) ?_
            exact fin _ _ f4 (by rw [pi_eq, hff]; rfl) (fun z => by rw [hff] at z; cases z) (sub_pre rfl)
      · exact absurd rfl (k2 j (by omega))
  refine ev_X1_parse [7] 100 ?_
  exact loop n 0 _ _ (by omega) rfl (fr.pi (by decide)) pi_eq (fun i hi => absurd hi (Nat.not_lt_zero i)) (fun s => ⟨fun h => absurd h (Nat.not_lt_zero _), fun h => absurd h (Nat.not_lt_zero _), fun h => by omega⟩)
/-! The picture -/
def pok (B : Nat → Nat) (i : Nat) : Bool := decide (B i = 46) || (decide (48 ≤ B i) && decide (B i ≤ 55))
def pfB (B : Nat → Nat) (n : Nat) : Option Nat := ff (pok B) n
def piP (B : Nat → Nat) (n : Nat) : Nat → Option Nat := fun c => if pfB B n = none ∧ c < n ∧ B c ≠ 46 then some (B c - 48) else none
/-- the picture's cells behind the first i bytes -/
def prel (σ : qw_M) (B : Nat → Nat) (i : Nat) : Prop := gl σ 18 (fun c => if c < i ∧ B c ≠ 46 then B c - 48 else 0) ∧ ∀ c, c < 32 → bt ((σ 17).1 1) c = (decide (c < i) && !decide (B c = 46))
theorem m_pparse {σ : qw_M} {B : Nat → Nat} {n : Nat} (hn : n ≤ 32) (ht : tx σ 5 n B) : qw_Mt qw_tw wC my_X3_parse [.ref 17, .ref 5] σ (fun _ σ' => fr [17, 18] σ σ' ∧ (σ' 17).1 2 = obi (pfB B n) ∧ pic σ' (piP B n)) := by
  generalize hQ : (fun (_ : Option Value) (σ' : qw_M) => fr [17, 18] σ σ' ∧ (σ' 17).1 2 = obi (pfB B n) ∧ pic σ' (piP B n)) = Q
  refine mt_X3_parse (Q := Q) rfl ?_
  have fin : ∀ (ls : qw_L) (σ' : qw_M), fr [17, 18] σ σ' → (σ' 17).1 2 = obi (pfB B n) → (pfB B n = none → prel σ' B n) → (∃ G, gl σ' 18 G) → (∀ q ∈ [(0, Value.ref 17), (1, .ref 5)], q ∈ ls) → E_X3_parse Q 98 ls [] σ' := fun ls σ' hf hfa hr hG hls => by
    refine qw_Ev.sub (ev_X3_parse [] 100 ?_) hls
    subst hQ
    cases hff : pfB B n with
    | none =>
      rw [hff] at hfa
      refine vt (by rw [hfa]; rfl) ?_
      obtain ⟨r1, r2⟩ := hr hff
      refine ⟨hf, hfa, _, r1, fun c hc => ⟨?_, fun v hv => ?_⟩⟩
      · rw [r2 c hc]
        unfold piP
        by_cases q1 : c < n <;> by_cases q2 : B c = 46 <;> simp [hff, q1, q2]
      · unfold piP at hv
        split at hv
        · rename_i q
          cases hv
          exact if_pos q.2
        · cases hv
    | some p =>
      rw [hff] at hfa
      have hp : p < n := ff_lt hff
      refine vf (by rw [hfa]; exact nI_m1 (by omega)) ?_
      obtain ⟨G, hG⟩ := hG
      have p0 : ∀ c, piP B n c = none := fun c => by
        unfold piP
        rw [hff, if_neg (by intro z; cases z.1)]
      refine ⟨hf.tr (fr.pi (by decide)), ?_, G, hG.fr (l := [17]) (fr.pi (by decide)) (by decide), fun c hc => ⟨?_, fun v hv => ?_⟩⟩
      · rw [pi_ne (q := 2) (j := 1) (by decide)]
        exact hfa
      · rw [pi_eq, p0 c]
        exact b_0 c
      · rw [p0 c] at hv
        cases hv
  have loop : ∀ (k j : Nat) (y : Int32) (ls : qw_L) (σ' : qw_M), j + k = n → y = nI j → fr [17, 18] σ σ' → (σ' 17).1 2 = m1 → (∀ i, i < j → pok B i = true) → prel σ' B j → (∀ q ∈ [(0, Value.ref 17), (1, .ref 5), (2, .int y)], q ∈ ls) → E_X3_parse Q 20 ls [] σ' := by
    intro k
    induction k with
    | zero =>
      intro j y ls σ' hj hy hf hfa hok hr hls
      subst hy
      have : j = n := by omega
      subst this
      have hn3 : (σ' 5).1 1 = nI j := by rw [hf 5 (by decide)]; exact ht.1
      refine qw_Ev.sub (ev_X3_parse [20, 98] 100 ?_) hls
      refine vt (by rw [hn3]; exact Int32.le_refl _) ?_
      have : pfB B j = none := ff_none.mpr hok
      exact fin _ σ' hf (by rw [hfa, this]; rfl) (fun _ => hr) ⟨_, hr.1⟩ (sub_pre rfl)
    | succ k ih =>
      intro j y ls σ' hj hy hf hfa hok hr hls
      subst hy
      have hn3 : (σ' 5).1 1 = nI n := by rw [hf 5 (by decide)]; exact ht.1
      refine qw_Ev.sub (ev_X3_parse [20, 42, 92, 98] 100 ?_) hls
      refine vf (by rw [hn3]; exact nnle n j (by omega) (by omega)) ?_
      refine vnf (by rw [hfa]) ?_
      refine ⟨trivial, _, m_item (k := 5) (N := 32) (by unfold qr_row; omega) hn3 hn _, fun x σ2 ⟨k1, k2⟩ => ?_⟩
      have k1 := k1.symm
      subst k1
      rcases k2 with ⟨i, hi, ee, k2⟩ | ⟨k2, -⟩
      · have : j = i := nI_i (by omega) (by omega) ee
        subst this
        obtain ⟨b1, b2⟩ := ht.2 j hi
        have b2' : (σ' (5 + 1)).1 j = nI (B j) := by rw [hf (5 + 1) (by decide)]; exact b2
        rw [b2'] at k2
        cases k2
        have go : ∀ (σ3 : qw_M), fr [17, 18] σ σ3 → (σ3 17).1 2 = m1 → pok B j = true → prel σ3 B (j + 1) → E_X3_parse Q 92 [(0, .ref 17), (1, .ref 5), (2, .int (nI j)), (3, .int (nI (B j)))] [] σ3 := fun σ3 g1 g2 g3 g4 => by
          refine ev_X3_parse [20] 100 ?_
          refine ih (j + 1) _ _ _ (by omega) (nI_add j 1) g1 g2 (fun i hi => ?_) g4 (sub_pre rfl)
          by_cases e : i = j
          · rw [e]; exact g3
          · exact hok i (by omega)
        have stop : ∀ (σ3 : qw_M), fr [17, 18] σ σ3 → (σ3 17).1 2 = nI j → pok B j = false → (∃ G, gl σ3 18 G) → E_X3_parse Q 92 [(0, .ref 17), (1, .ref 5), (2, .int (nI j)), (3, .int (nI (B j)))] [] σ3 := fun σ3 g1 g2 g3 g4 => by
          have hff : pfB B n = some j := ff_some hi hok g3
          have hn4 : (σ3 5).1 1 = nI n := by rw [g1 5 (by decide)]; exact ht.1
          refine ev_X3_parse [20] 100 ?_
          have e1 : nI j + nI 1 = nI (j + 1) := nI_add j 1
          show E_X3_parse Q 20 [(0, .ref 17), (1, .ref 5), (2, .int (nI j + nI 1)), (3, .int (nI (B j)))] [] σ3
          rw [e1]
          refine ev_X3_parse [20, 98] 100 ?_
          refine vb (fun _ => ?_) (fun _ => ?_)
          · exact fin _ _ g1 (by rw [g2, hff]; rfl) (fun z => by rw [hff] at z; cases z) g4 (sub_pre rfl)
          · refine vnt (by rw [g2]; exact nI_m1 (by omega)) ?_
            exact fin _ _ g1 (by rw [g2, hff]; rfl) (fun z => by rw [hff] at z; cases z) g4 (sub_pre rfl)
        show E_X3_parse Q 42 [(0, .ref 17), (1, .ref 5), (2, .int (nI j)), (3, .int (nI (B j)))] [] σ'
        have dig : 48 ≤ B j → B j ≤ 55 → E_X3_parse Q 54 [(0, .ref 17), (1, .ref 5), (2, .int (nI j)), (3, .int (nI (B j)))] [] σ' := fun h1 h2 => by
          have e : nI (B j) - nI 48 = nI (B j - 48) := pk_sub h1
          refine ev_X3_parse [78, 92] 100 ?_
          have hm := fun σ : qw_M => m_set (σ := σ) (c := j) (v := B j - 48) (by omega) (by omega)
          simp only [← e] at hm
          refine ⟨trivial, _, hm _, fun σ3 ⟨f3, s3⟩ => ?_⟩
          refine ev_X3_parse [92] 100 ?_
          have fA : fr [17, 18] σ' σ3 := ((fr.pi (by decide)).tr (f3.mo (by decide)))
          refine go σ3 (hf.tr fA) ?_ (by unfold pok; simp [h1, h2]) ⟨fun c hc => ?_, fun c hc => ?_⟩
          · rw [f3 17 (by decide), pi_ne (q := 2) (j := 1) (by decide)]
            exact hfa
          · obtain ⟨a1, a2, a3, a4⟩ := hr.1 c hc
            obtain ⟨s31, s32, s33⟩ := s3 c hc
            rw [s31, s32, s33, pi_off (c := 18) (k := 17) (by decide), a2, a3, a4]
            dsimp only
            by_cases q : c = j
            · subst q
              have e1 : (if c < c ∧ B c ≠ 46 then B c - 48 else 0) = 0 := if_neg (by omega)
              have e2 : (if c < c + 1 ∧ B c ≠ 46 then B c - 48 else 0) = B c - 48 := if_pos (by omega)
              rw [e1, e2]
              refine ⟨by omega, ?_, ?_, ?_⟩ <;> simp
            · have e1 : (if c < j + 1 ∧ B c ≠ 46 then B c - 48 else 0) = (if c < j ∧ B c ≠ 46 then B c - 48 else 0) := by
                by_cases q2 : c < j ∧ B c ≠ 46
                · rw [if_pos q2, if_pos (by omega)]
                · rw [if_neg q2, if_neg (by omega)]
              rw [e1]
              refine ⟨a1, ?_, ?_, ?_⟩ <;> simp [q]
          · rw [f3 17 (by decide), pi_eq, b_or, hr.2 c hc, bt_shl1 (by omega) hc]
            by_cases q : c = j
            · subst q
              have : B c ≠ 46 := by omega
              simp [this]
            · have : decide (c < j + 1) = decide (c < j) := by simp; omega
              rw [this]
              simp [q]
        have nodig : ¬ (48 ≤ B j ∧ B j ≤ 55) → E_X3_parse Q 81 [(0, .ref 17), (1, .ref 5), (2, .int (nI j)), (3, .int (nI (B j)))] [] σ' := fun h1 => by
          refine ev_X3_parse [92] 100 ?_
          by_cases q2 : B j = 46
          · refine vt (by rw [q2]) ?_
            refine go σ' hf hfa (by unfold pok; simp [q2]) ⟨hr.1.congr (fun c hc => ?_), fun c hc => ?_⟩
            · by_cases q : c = j
              · subst q
                show (if c < c + 1 ∧ B c ≠ 46 then B c - 48 else 0) = (if c < c ∧ B c ≠ 46 then B c - 48 else 0)
                rw [if_neg (by omega), if_neg (by omega)]
              · show (if c < j + 1 ∧ B c ≠ 46 then B c - 48 else 0) = (if c < j ∧ B c ≠ 46 then B c - 48 else 0)
                by_cases q2 : c < j ∧ B c ≠ 46
                · rw [if_pos q2, if_pos (by omega)]
                · rw [if_neg q2, if_neg (by omega)]
            · rw [hr.2 c hc]
              by_cases q : c = j
              · subst q
                simp [q2]
              · have : decide (c < j + 1) = decide (c < j) := by simp; omega
                rw [this]
          · refine vf (fun z => q2 (nI_i (b := 46) (by omega) (by omega) z)) ?_
            refine stop _ (hf.tr (fr.pi (by decide))) pi_eq ?_ ⟨_, hr.1.fr (l := [17]) (fr.pi (by decide)) (by decide)⟩
            unfold pok
            simp [q2]
            omega
        refine ev_X3_parse [54, 81] 100 ?_
        by_cases q1 : B j < 48
        · refine vt (nlt (B j) 48 q1 (by omega)) ?_
          exact nodig (by omega)
        · refine vf (nnlt (B j) 48 (by omega) (by omega)) ?_
          by_cases q2 : 55 < B j
          · refine vt (nlt 55 (B j) q2 (by omega)) ?_
            exact nodig (by omega)
          · refine vf (nnlt 55 (B j) (by omega) (by omega)) ?_
            exact dig (by omega) (by omega)
      · exact absurd rfl (k2 j (by omega))
  refine ev_X3_parse [20] 100 ?_
  refine ⟨trivial, _, m_fill0 (k := 18) (Or.inl rfl), fun σ1 ⟨f1, g1⟩ => ?_⟩
  have f0 : fr [17, 18] σ σ1 := (fr.pi (by decide)).tr (f1.mo (by decide))
  refine loop n 0 _ _ _ (by omega) rfl (f0.tr (fr.pi (by decide))) ?_ (fun i hi => absurd hi (Nat.not_lt_zero i)) ⟨(g1.fr (l := [17]) (fr.pi (by decide)) (by decide)).congr (fun c hc => if_neg (by omega)), fun c hc => ?_⟩ (sub_pre rfl)
  · rw [pi_ne (q := 2) (j := 1) (by decide), f1 17 (by decide), pi_eq]
  · rw [pi_eq]
    have : decide (c < 0) = false := by simp
    rw [this]
    exact b_0 c
