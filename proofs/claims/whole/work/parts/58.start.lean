/-! THE START (printed by wip/whole/gen58.py) -/
def sC0 (fR fC : Nat → Int32) : qw_M := fun k => qw_nth [((fun j => qw_nth [0, 0, 0, 0, 0, 0, 0, 0, 0] j 0), fun j => qw_nth [0, 0, 0, 0, 0, 0, 0, 0, 0] j 0), ((fun j => qw_nth [0, 0] j 0), fun j => qw_nth [0, 0] j 0), ((fun _ => 0), fun _ => 0), ((fun j => qw_nth [0, 0] j 0), fun j => qw_nth [0, 0] j 0), ((fun _ => 0), fun _ => 0), ((fun j => qw_nth [0, 0] j 0), fun j => qw_nth [0, 0] j 0), ((fun _ => 0), fun _ => 0), ((fun j => qw_nth [0, 0, 0, 0, 0, (nI 16)] j 0), fun j => qw_nth [0, 0, 0, 0, 0, 0] j 0), ((fun j => qw_nth [0, 0, 0, 0, 0, 0, (Int32.ofInt (Int.negSucc 0))] j 0), fun j => qw_nth [0, 0, 0, 0, 0, 0, 0] j 0), ((fun _ => 0), fun _ => 0), ((fun _ => 0), fun _ => 0), ((fun _ => 0), fun _ => 0), ((fun _ => 0), fun _ => 0), ((fun _ => 0), fun _ => 0), ((fun j => qw_nth [0, 0, 0, (Int32.ofInt (Int.negSucc 0))] j 0), fun j => qw_nth [0, 0, 0, 0] j 0), ((fun _ => 0), fun _ => 0), ((fun _ => 0), fun _ => 0), ((fun j => qw_nth [0, 0, (Int32.ofInt (Int.negSucc 0))] j 0), fun j => qw_nth [0, 0, 0] j 0), ((fun j => qw_nth [0, 0, 0] j 0), fun j => qw_nth [0, 0, 0] j 0), ((fun j => qw_nth [0, 0] j 0), fun j => qw_nth [0, 0] j 0), ((fun _ => 0), fun _ => 0), ((fun j => qw_nth [0, 0, 0, 0, 0, 0, 0, 0, 0] j 0), fun j => qw_nth [0, 0, 0, 0, 0, 0, 0, 0, 0] j 0), (fR, fun _ => 0), ((fun _ => 0), fun _ => 0), ((fun _ => 0), fun _ => 0), ((fun _ => 0), fun _ => 0), (fC, fun _ => 0), ((fun _ => 0), fun _ => 0), ((fun j => qw_nth [0, 0, 0] j 0), fun j => qw_nth [0, 0, 0] j 0), ((fun j => qw_nth [0, 0, 0, 0, 0, 0] j 0), fun j => qw_nth [0, 0, 0, 0, 0, 0] j 0), ((fun j => qw_nth [0, 0, 0] j 0), fun j => qw_nth [0, 0, 0] j 0), ((fun _ => 0), fun _ => 0), ((fun _ => 0), fun _ => 0), ((fun _ => 0), fun _ => 0), ((fun j => qw_nth [0, 0, 0, 0] j 0), fun j => qw_nth [0, 0, 0, 0] j 0), ((fun j => qw_nth [0, 0] j 0), fun j => qw_nth [0, 0] j 0), ((fun _ => 0), fun _ => 0), ((fun _ => 0), fun _ => 0), ((fun j => qw_nth [0, 0, 0, 0] j 0), fun j => qw_nth [0, 0, 0, 1] j 0), ((fun j => qw_nth [0, 0, 0, (Int32.ofInt (Int.negSucc 0))] j 0), fun j => qw_nth [0, 0, 0, 0] j 0), ((fun _ => 0), fun _ => 0), ((fun _ => 0), fun _ => 0), (fun _ => 0, fun _ => 0), ((fun j => qw_nth [0, (Int32.ofInt (Int.negSucc 0)), 0] j 0), fun j => qw_nth [0, 0, 0] j 0), ((fun j => qw_nth [0, (Int32.ofInt (Int.negSucc 0)), 0] j 0), fun j => qw_nth [0, 0, 0] j 0), ((fun j => qw_nth [0, (Int32.ofInt (Int.negSucc 0)), 0] j 0), fun j => qw_nth [0, 0, 0] j 0), ((fun j => qw_nth [0, (Int32.ofInt (Int.negSucc 0)), 0] j 0), fun j => qw_nth [0, 0, 0] j 0), ((fun _ => 0), fun _ => 0), ((fun _ => 0), fun _ => 0), ((fun _ => 0), fun _ => 0), ((fun _ => 0), fun _ => 0)] k (fun _ => 0, fun _ => 0)
def sM0 : qw_M := fun k => qw_nth [((fun j => qw_nth [0, 0, 0, 0, 0, 0, 0, 0, 0, 0, 0, 0, 0, (nI 16), 0, 0, 0, 0, 0, 0, 0, 0, 0, 0, 0, 0] j 0), fun j => qw_nth [0, 0, 0, 0, 0, 0, 0, 0, 0, 0, 0, 0, 0, 0, 0, 0, 0, 0, 0, 0, 0, 0, 0, 0, 0, 0] j 0), ((upd (upd (upd (upd (fun _ => 0) (nI 0).toNatClampNeg (Int32.ofInt (Int.negSucc 0))) (nI 1).toNatClampNeg (Int32.ofInt (Int.negSucc 0))) (nI 2).toNatClampNeg (Int32.ofInt (Int.negSucc 0))) (nI 3).toNatClampNeg (Int32.ofInt (Int.negSucc 0))), fun _ => 0), ((fun _ => 0), fun _ => 0), ((fun _ => 0), fun _ => 0), ((fun _ => 0), fun _ => 0), ((fun _ => 0), fun _ => 0), ((fun _ => 0), fun _ => 0), ((fun _ => 0), fun _ => 0), ((fun _ => 0), fun _ => 0), ((fun _ => 0), fun _ => 0), ((fun _ => 0), fun _ => 0), ((fun _ => 0), fun _ => 0), ((fun _ => 0), fun _ => 0), ((fun _ => 0), fun _ => 0), ((fun _ => 0), fun _ => 0), ((fun _ => 0), fun _ => 0), ((fun _ => 0), fun _ => 0), ((fun _ => 0), fun _ => 0), ((fun _ => 0), fun _ => 0)] k (fun _ => 0, fun _ => 0)
/-- starting state: texts empty, lamp at 16, all else none -/
def A0 : AS := (fun _ => 0, fun _ _ => 0, 16, (0, fun _ => 0), (0, fun _ => 0), fun _ => none, 0)
theorem KC0 {fR fC : Nat → Int32} (hR : nRY fR) (hC : ∀ f, f < 8 → fC f = Int32.ofInt (Int.negSucc 0)) : KC (sC0 fR fC) A0 := by
  have h0 : ∀ i, bt (0 : Int32) i = false := fun i => by simp [bt]
  refine ⟨fun t ht => ⟨Nat.zero_le _, ?_, fun i hi => absurd hi (Nat.not_lt_zero i)⟩, ⟨rfl, rfl, rfl⟩, ⟨?_, ?_, ?_, ?_, ?_, hR, ?_⟩, ?_, ?_, ?_⟩
  · match t, ht with
    | 0, _ => rfl
    | 1, _ => rfl
    | 2, _ => rfl
  · exact ⟨⟨Nat.zero_le _, fun f hf => absurd hf (Nat.not_lt_zero f)⟩, rfl, fun f hf => absurd hf (Nat.not_lt_zero f)⟩
  · have hn : ∀ s, aC A0 s = none := fun s => by
      show cuC (fun _ => 0) 0 s = none
      exact if_neg (fun y : cfa (fun _ => 0) 0 = none ∧ s < 0 / 2 => absurd y.2 (Nat.not_lt_zero s))
    exact ⟨fun s f w h => (by rw [hn] at h; cases h), 0, Nat.zero_le _, rfl, fun s _ => hn s, fun s hs => absurd hs (Nat.not_lt_zero s)⟩
  · have hn : ∀ s, aP A0 s = none := fun s => by
      show piP (fun _ => 0) 0 s = none
      exact if_neg (fun y : pfB (fun _ => 0) 0 = none ∧ s < 0 ∧ (0 : Nat) ≠ 46 => absurd y.2.1 (Nat.not_lt_zero s))
    refine ⟨fun _ => 0, fun c _ => ⟨(show (0 : Nat) < 8 by decide), ?_, ?_, ?_⟩, fun c _ => ⟨?_, fun v h => (by rw [hn] at h; cases h)⟩⟩
    · exact (h0 c).trans (by simp)
    · exact (h0 c).trans (by simp)
    · exact (h0 c).trans (by simp)
    · rw [hn]
      exact h0 c
  · exact ⟨Nat.zero_le _, rfl, fun i hi => absurd hi (Nat.not_lt_zero i)⟩
  · exact ⟨by decide, rfl⟩
  · exact fun f hf => Or.inl (hC f hf)
  · exact ⟨Nat.zero_le _, rfl, fun i hi => absurd hi (Nat.not_lt_zero i)⟩
  · intro s hs
    match s, hs with
    | 0, _ => exact ⟨trivial, rfl, rfl, fun i hi => absurd hi (Nat.not_lt_zero i)⟩
    | 1, _ => exact ⟨trivial, rfl, rfl, fun i hi => absurd hi (Nat.not_lt_zero i)⟩
    | 2, _ => exact ⟨trivial, rfl, rfl, fun i hi => absurd hi (Nat.not_lt_zero i)⟩
    | 3, _ => exact ⟨trivial, rfl, rfl, fun i hi => absurd hi (Nat.not_lt_zero i)⟩
  · exact ⟨rfl, Nat.zero_le _⟩
theorem KM0 : KM sM0 A0 := by
  refine ⟨fun t ht => ⟨Nat.zero_le _, ?_, fun i hi => absurd hi (Nat.not_lt_zero i)⟩, ⟨Nat.zero_le _, rfl, fun i hi => absurd hi (Nat.not_lt_zero i)⟩, ⟨by decide, rfl⟩, ⟨Nat.zero_le _, rfl, fun i hi => absurd hi (Nat.not_lt_zero i)⟩, ?_, ⟨rfl, Nat.zero_le _⟩, rfl, rfl⟩
  · match t, ht with
    | 0, _ => rfl
    | 1, _ => rfl
    | 2, _ => rfl
  · intro s hs
    refine ⟨trivial, ?_, fun h => absurd rfl h, fun i hi => absurd hi (Nat.not_lt_zero i)⟩
    match s, hs with
    | 0, _ => rfl
    | 1, _ => rfl
    | 2, _ => rfl
    | 3, _ => rfl
theorem n_perm {g : qw_Ad} {z : Nat} {ws : va_W} {H : Heap} (h : nWd g z ws H) (is : List Nat) (hn : va_nd is = true) {ws' : va_W} (hs : is.map (fun i => ws[i]?) = ws'.map some) : nWd g z ws' H := by
  have key : ∀ (k : Nat) (q : Nat × va_E), ws'[k]? = some q → ∃ i, is[k]? = some i ∧ ws[i]? = some q := fun k q hk => by
    have h1 : (is.map (fun i => ws[i]?))[k]? = some (some q) := by rw [hs, List.getElem?_map, hk]; rfl
    rw [List.getElem?_map] at h1
    cases hi : is[k]? with
    | none => rw [hi] at h1; cases h1
    | some i => rw [hi] at h1; exact ⟨i, rfl, Option.some.inj h1⟩
  refine ⟨fun k q hk => ?_, fun i j p q hi hj hpq => ?_, fun k q hk => ?_⟩
  · obtain ⟨i, _, h2⟩ := key k q hk
    exact h.1 i q h2
  · obtain ⟨i2, h1, h2⟩ := key i p hi
    obtain ⟨j2, h3, h4⟩ := key j q hj
    have := h.2.1 _ _ _ _ h2 h4 hpq
    subst this
    exact va_nd_inj is hn i j i2 h1 h3
  · obtain ⟨i, _, h2⟩ := key k q hk
    exact h.2.2 i q h2
theorem n_sheets {a : Nat → Nat} {q43 q45 q47 q49 : Nat} (e0 : a 43 = q43) (e1 : a 44 = q45) (e2 : a 45 = q47) (e3 : a 46 = q49) : (va_up (va_up (va_up (va_up (fun _ => none) (nI 0).toNatClampNeg (some q43)) (nI 1).toNatClampNeg (some q45)) (nI 2).toNatClampNeg (some q47)) (nI 3).toNatClampNeg (some q49)) = (fun i => (match Nat.blt i 4 with | true => some (43 + i) | false => none).map a) := by
  funext i
  unfold va_up
  rw [nI_clamp (by decide), nI_clamp (by decide), nI_clamp (by decide), nI_clamp (by decide)]
  match i with
  | 0 => simp [Nat.blt, e0]
  | 1 => simp [Nat.blt, e1]
  | 2 => simp [Nat.blt, e2]
  | 3 => simp [Nat.blt, e3]
  | i + 4 =>
    have hb : Nat.blt (i + 4) 4 = false := by
      cases hb : Nat.blt (i + 4) 4 with
      | false => rfl
      | true => exact absurd (Nat.le_of_ble_eq_true hb) (by omega)
    rw [hb, if_neg (by omega), if_neg (by omega), if_neg (by omega), if_neg (by omega)]
    rfl
/-- where the class's cells are -/
def nCa (h0 q1 q2 q3 q4 q5 q6 q7 q8 q9 q10 q11 q12 q13 q14 q15 q16 q17 q18 q19 q20 q21 q22 q23 q24 q25 q26 q27 q28 q29 q30 q31 q32 q33 q34 q35 q36 q37 q38 q39 q40 q41 q42 q43 q44 q45 q46 q47 q48 q49 q50 b0 b1 t0 t1 : Nat) : Nat → Nat := fun k => qw_nth [h0, q1, q2, q3, q4, q5, q6, q7, q8, q9, q10, q11, q12, q13, q14, q15, q16, q17, q18, q19, q20, q21, q22, q23, q24, q25, q26, q27, q28, q29, q30, q31, q32, q33, q34, q35, q36, q37, q38, q39, q40, q41, q42, q43, q45, q47, q49, q44, q46, q48, q50, b0, b1, t0, t1] k 0
theorem n_toC {g : qw_Ad} {z : Nat} {H : Heap} {h0 q1 q2 q3 q4 q5 q6 q7 q8 q9 q10 q11 q12 q13 q14 q15 q16 q17 q18 q19 q20 q21 q22 q23 q24 q25 q26 q27 q28 q29 q30 q31 q32 q33 q34 q35 q36 q37 q38 q39 q40 q41 q42 q43 q44 q45 q46 q47 q48 q49 q50 b0 b1 t0 t1 : Nat} {fR fC : Nat → Int32} (h : nWd g z [(h0, eO 11 [.ref q1, .ref q3, .ref q5, .ref q7, .ref q29, .ref q34, .ref q38, .ref q42, .int 0]), (q1, eO 5 [.ref q2, .int 0]), (q2, eA g 87 (fun _ => 0)), (q3, eO 5 [.ref q4, .int 0]), (q4, eA g 40 (fun _ => 0)), (q5, eO 5 [.ref q6, .int 0]), (q6, eA g 32 (fun _ => 0)), (q7, eO 7 [.ref q8, .ref q14, .ref q17, .ref q19, .ref q21, .int (nI 16)]), (q8, eO 9 [.ref q9, .ref q10, .ref q11, .ref q12, .ref q13, .int 0, .int (Int32.ofInt (Int.negSucc 0))]), (q9, eA g 8 (fun _ => 0)), (q10, eA g 8 (fun _ => 0)), (q11, eA g 8 (fun _ => 0)), (q12, eA g 8 (fun _ => 0)), (q13, eA g 8 (fun _ => 0)), (q14, eO 1 [.ref q15, .ref q16, .int 0, .int (Int32.ofInt (Int.negSucc 0))]), (q15, eA g 20 (fun _ => 0)), (q16, eA g 20 (fun _ => 0)), (q17, eO 3 [.ref q18, .int 0, .int (Int32.ofInt (Int.negSucc 0))]), (q18, eO 2 nb_2), (q19, eO 5 [.ref q20, .int 0]), (q20, eA g 8 (fun _ => 0)), (q21, eO 8 [.ref q8, .ref q22, .ref q23, .ref q24, .ref q25, .ref q26, .ref q27, .ref q28, .int 0]), (q22, eA g 8192 fR), (q23, eA g 8 (fun _ => 0)), (q24, eA g 8 (fun _ => 0)), (q25, eA g 8 (fun _ => 0)), (q26, eA g 8 fC), (q27, eA g 8 (fun _ => 0)), (q28, eO 2 nb_2), (q29, eO 4 [.ref q7, .ref q21, .ref q30, .ref q31, .ref q32, .ref q33]), (q30, eO 2 nb_2), (q31, eA g 9 (fun _ => 0)), (q32, eA g 32 (fun _ => 0)), (q33, eA g 3 (fun _ => 0)), (q34, eO 10 [.ref q7, .ref q21, .ref q35, .ref q37]), (q35, eO 5 [.ref q36, .int 0]), (q36, eA g 8 (fun _ => 0)), (q37, eA g 256 (fun _ => 0)), (q38, eO 0 [.ref q7, .ref q39, .long 0, .long 1]), (q39, eO 1 [.ref q40, .ref q41, .int 0, .int (Int32.ofInt (Int.negSucc 0))]), (q40, eA g 20 (fun _ => 0)), (q41, eA g 20 (fun _ => 0)), (q42, eQ g 4 (va_up (va_up (va_up (va_up (fun _ => none) (nI 0).toNatClampNeg (some q43)) (nI 1).toNatClampNeg (some q45)) (nI 2).toNatClampNeg (some q47)) (nI 3).toNatClampNeg (some q49))), (q43, eO 6 [.ref q44, .int (Int32.ofInt (Int.negSucc 0)), .int 0]), (q44, eA g 60 (fun _ => 0)), (q45, eO 6 [.ref q46, .int (Int32.ofInt (Int.negSucc 0)), .int 0]), (q46, eA g 60 (fun _ => 0)), (q47, eO 6 [.ref q48, .int (Int32.ofInt (Int.negSucc 0)), .int 0]), (q48, eA g 60 (fun _ => 0)), (q49, eO 6 [.ref q50, .int (Int32.ofInt (Int.negSucc 0)), .int 0]), (q50, eA g 60 (fun _ => 0))] H) : nWd g z (qw_ws wC (g.1, nCa h0 q1 q2 q3 q4 q5 q6 q7 q8 q9 q10 q11 q12 q13 q14 q15 q16 q17 q18 q19 q20 q21 q22 q23 q24 q25 q26 q27 q28 q29 q30 q31 q32 q33 q34 q35 q36 q37 q38 q39 q40 q41 q42 q43 q44 q45 q46 q47 q48 q49 q50 b0 b1 t0 t1, g.2.2) (sC0 fR fC)) H := by
  rw [n_sheets (a := nCa h0 q1 q2 q3 q4 q5 q6 q7 q8 q9 q10 q11 q12 q13 q14 q15 q16 q17 q18 q19 q20 q21 q22 q23 q24 q25 q26 q27 q28 q29 q30 q31 q32 q33 q34 q35 q36 q37 q38 q39 q40 q41 q42 q43 q44 q45 q46 q47 q48 q49 q50 b0 b1 t0 t1) (q43 := q43) (q45 := q45) (q47 := q47) (q49 := q49) rfl rfl rfl rfl] at h
  exact n_perm h [0, 1, 2, 3, 4, 5, 6, 7, 8, 9, 10, 11, 12, 13, 14, 15, 16, 17, 18, 19, 20, 21, 22, 23, 24, 25, 26, 27, 28, 29, 30, 31, 32, 33, 34, 35, 36, 37, 38, 39, 40, 41, 42, 43, 45, 47, 49, 44, 46, 48, 50] (by decide +kernel) rfl
def nMa (h0 q1 q2 q3 q4 q5 q6 q7 q8 q9 q10 q11 q12 q13 q14 q15 q16 q17 q18 : Nat) : Nat → Nat := fun k => qw_nth [h0, q1, q2, q3, q4, q5, q6, q7, q8, q9, q10, q11, q12, q13, q14, q15, q16, q17, q18] k 0
theorem n_toM {g : qw_Ad} {z : Nat} {H : Heap} {pre : va_W} {h0 q1 q2 q3 q4 q5 q6 q7 q8 q9 q10 q11 q12 q13 q14 q15 q16 q17 q18 : Nat} (h : nWd g z (pre ++ [(h0, eO 12 [.ref q1, .ref q2, .ref q3, .ref q4, .int 0, .ref q5, .ref q6, .int 0, .ref q7, .ref q8, .ref q9, .ref q10, .ref q11, .int (nI 16), .int 0, .ref q12, .ref q13, .ref q14, .ref q15, .ref q16, .int 0, .int 0, .int 0, .ref q17, .ref q18, .int 0]), (q1, eA g 4 (upd (upd (upd (upd (fun _ => 0) (nI 0).toNatClampNeg (Int32.ofInt (Int.negSucc 0))) (nI 1).toNatClampNeg (Int32.ofInt (Int.negSucc 0))) (nI 2).toNatClampNeg (Int32.ofInt (Int.negSucc 0))) (nI 3).toNatClampNeg (Int32.ofInt (Int.negSucc 0)))), (q2, eA g 4 (fun _ => 0)), (q3, eA g 240 (fun _ => 0)), (q4, eA g 60 (fun _ => 0)), (q5, eA g 264 (fun _ => 0)), (q6, eA g 3 (fun _ => 0)), (q7, eA g 32 (fun _ => 0)), (q8, eA g 8 (fun _ => 0)), (q9, eA g 20 (fun _ => 0)), (q10, eA g 20 (fun _ => 0)), (q11, eA g 32 (fun _ => 0)), (q12, eA g 8 (fun _ => 0)), (q13, eA g 160 (fun _ => 0)), (q14, eA g 160 (fun _ => 0)), (q15, eA g 8 (fun _ => 0)), (q16, eA g 8 (fun _ => 0)), (q17, eA g 24 (fun _ => 0)), (q18, eA g 256 (fun _ => 0))]) H) : nWd g z (pre ++ qw_ws wM (g.1, nMa h0 q1 q2 q3 q4 q5 q6 q7 q8 q9 q10 q11 q12 q13 q14 q15 q16 q17 q18, g.2.2) sM0) H := h
