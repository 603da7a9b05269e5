/-! WHAT THE STATEMENT GIVES OF THE START (printed by wip/whole/gen59.py) -/
theorem nth_getD {α : Type} {d : α} : ∀ (l : List α) (k : Nat), qw_nth l k d = l.getD k d
  | [], k => by simp [qw_nth]
  | a :: l, 0 => rfl
  | a :: l, k + 1 => by
    show qw_nth l k d = _
    rw [nth_getD l k]
    simp
/-- what the class's texts need, whoever is changed from z on -/
def nEv (a : Nat → Nat) (z : Nat) (U : State) (H : Heap) : Prop := (∀ k, k < 2 → va_T .byte (a (51 + k)) 4 (fun j => .int ((qw_ro wC (51 + k)).1 j)) (fun q : Nat => z ≤ q) U H) ∧ (∀ k, k < 2 → ¬ z ≤ a (51 + k)) ∧ va_Z "java/lang/String" "COMPACT_STRINGS" "Z" (.int 1) (fun q : Nat => z ≤ q) U H ∧ (∀ i, i < 2 → va_O "java/lang/String" (a (53 + i)) (fun q : Nat => z ≤ q) U H ∧ va_OF "java/lang/String" "value" "[B" (.ref (a (51 + i))) (a (53 + i)) (fun q : Nat => z ≤ q) U H ∧ va_OF "java/lang/String" "coder" "B" (.int 0) (a (53 + i)) (fun q : Nat => z ≤ q) U H) ∧ (vk_R "ShadowTheatre$Troupe" 45 "krgb" (a 53) U ∧ vk_R "ShadowTheatre$Cues" 36 "lrfb" (a 54) U)
theorem nEv.env {a : Nat → Nat} {z : Nat} {s : State} {H : Heap} {locs : List Loc} {g : qw_Ad} (h : nEv a z s s.heap) (hS : nSt z s H locs) (hA : ∀ q, qw_A wC (g.1, a, g.2.2) q → z ≤ q) (hN : ∀ q ∈ qc_nst, va_Nw (qw_nl q) s) : qw_env wC (g.1, a, g.2.2) s H := by
  have hk : ∀ b : Nat, b < s.heap.size → ¬ z ≤ b → H[b]? = s.heap[b]? := hS.2.1
  refine ⟨fun k hk2 => ⟨4, ?_, va_T.narrow ((h.1 k hk2).kept hk) hA⟩, fun k hk2 y => h.2.1 k hk2 (hA _ y), fun q hq => ?_, hN, fun i hi => ?_, fun q hq => ?_⟩
  · match k, hk2 with
    | 0, _ => rfl
    | 1, _ => rfl
  · have := List.mem_singleton.mp hq
    subst this
    exact va_Z.nar (h.2.2.1.kept hk) hA
  · obtain ⟨h1, h2, h3⟩ := h.2.2.2.1 i hi
    exact ⟨va_O.narrow (h1.kept hk) hA, va_OF.narrow (h2.kept hk) hA, va_OF.narrow (h3.kept hk) hA⟩
  · rcases List.mem_cons.mp hq with rfl | hq
    · exact h.2.2.2.2.1
    · rcases List.mem_cons.mp hq with rfl | hq
      · exact h.2.2.2.2.2
      · cases hq
theorem nst_in : ∀ q ∈ qc_nst, qw_nl q ∈ lw_tbl := fun q hq => of_decide_eq_true (List.all_eq_true.mp (show qc_nst.all (fun q => decide (qw_nl q ∈ lw_tbl)) = true by decide +kernel) q hq)
theorem nsm_in : ∀ q ∈ qc_nsm, Cond.methodLinkNest q.1 q.2.1 q.2.2.1 q.2.2.2 ∈ lw_tbl := fun q hq => of_decide_eq_true (List.all_eq_true.mp (show qc_nsm.all (fun q => decide (Cond.methodLinkNest q.1 q.2.1 q.2.2.1 q.2.2.2 ∈ lw_tbl)) = true by decide +kernel) q hq)
theorem n_tb0 {args : Array Value} {s : State} (hts : ∀ w ∈ lw_tbl, w.before args s = true) : ∃ (D : va_G) (ty : Nat → ClassId), ∀ a : Nat → Nat, nTb (D, a, ty) s := by
  have htw : ∀ w ∈ qw_tw, w.before args s = true := fun w hw => hts w (List.mem_filter.mp hw).1
  have hcl : ∀ ci : Nat, ∃ q : ClassId × (Nat → Nat), ∀ c, qc_cl[ci]? = some c → u_Kn s c.1 c.2.1 c.2.2 q.1 q.2 := by
    intro ci
    match ci with
    | 0 =>
      obtain ⟨cC, iS, h⟩ := u_known htw qv_0_ok (htw _ tz_357)
      exact ⟨(cC, iS), fun c hc => (by cases hc; exact h)⟩
    | 1 =>
      obtain ⟨cC, iS, h⟩ := u_known htw qv_1_ok (htw _ tz_172)
      exact ⟨(cC, iS), fun c hc => (by cases hc; exact h)⟩
    | 2 =>
      obtain ⟨cC, iS, h⟩ := u_known htw qv_2_ok (htw _ tz_198)
      exact ⟨(cC, iS), fun c hc => (by cases hc; exact h)⟩
    | 3 =>
      obtain ⟨cC, iS, h⟩ := u_known htw qv_3_ok (htw _ tz_192)
      exact ⟨(cC, iS), fun c hc => (by cases hc; exact h)⟩
    | 4 =>
      obtain ⟨cC, iS, h⟩ := u_known htw qv_4_ok (htw _ tz_308)
      exact ⟨(cC, iS), fun c hc => (by cases hc; exact h)⟩
    | 5 =>
      obtain ⟨cC, iS, h⟩ := u_known htw qv_5_ok (htw _ tz_104)
      exact ⟨(cC, iS), fun c hc => (by cases hc; exact h)⟩
    | 6 =>
      obtain ⟨cC, iS, h⟩ := u_known htw qv_6_ok (htw _ tz_381)
      exact ⟨(cC, iS), fun c hc => (by cases hc; exact h)⟩
    | 7 =>
      obtain ⟨cC, iS, h⟩ := u_known htw qv_7_ok (htw _ tz_127)
      exact ⟨(cC, iS), fun c hc => (by cases hc; exact h)⟩
    | 8 =>
      obtain ⟨cC, iS, h⟩ := u_known htw qv_8_ok (htw _ tz_231)
      exact ⟨(cC, iS), fun c hc => (by cases hc; exact h)⟩
    | 9 =>
      obtain ⟨cC, iS, h⟩ := u_known htw qv_9_ok (htw _ tz_133)
      exact ⟨(cC, iS), fun c hc => (by cases hc; exact h)⟩
    | 10 =>
      obtain ⟨cC, iS, h⟩ := u_known htw qv_10_ok (htw _ tz_335)
      exact ⟨(cC, iS), fun c hc => (by cases hc; exact h)⟩
    | 11 =>
      obtain ⟨cC, iS, h⟩ := u_known htw qv_11_ok (htw _ tz_96)
      exact ⟨(cC, iS), fun c hc => (by cases hc; exact h)⟩
    | 12 =>
      obtain ⟨cC, iS, h⟩ := u_known htw qv_12_ok (htw _ tz_1131)
      exact ⟨(cC, iS), fun c hc => (by cases hc; exact h)⟩
    | _ + 13 => exact ⟨(0, fun _ => 0), fun c hc => (by cases hc)⟩
  obtain ⟨ad, had⟩ := Classical.axiomOfChoice hcl
  obtain ⟨cI, kI, compI, i1, i2, i3⟩ := Cond.arrayClass_spec (htw _ tz_125)
  obtain ⟨cB, kB, compB, b1, b2, b3⟩ := Cond.arrayClass_spec (hts (Cond.arrayClass .byte) (by decide +kernel))
  have hS : va_AO "ShadowTheatre$Sheet" s := va_AO.of (hts (Cond.arrayOver (.object "ShadowTheatre$Sheet")) (by decide +kernel))
  obtain ⟨comp, cS, kS, f1, f2, f3, f4, f5⟩ := Cond.arrayOver_spec hS
  refine ⟨(fun c => (ad c).1, fun c => (ad c).2), (fun t => match t with | 0 => cI | 1 => cB | _ => cS), fun a => ⟨⟨fun c q hq => had c q hq, fun k q hk => ?_⟩, fun q hq => va_Nw.of rfl (hts _ (nst_in q hq)), hS, fun q hq => va_Nw.of rfl (hts _ (nsm_in q hq))⟩⟩
  match k with
  | 0 =>
    have e : (cI, FieldType.int) = q := Option.some.inj hk
    subst e
    exact ⟨fun n z => ⟨fun k h => (by cases h), kI, i2, compI, i3⟩, i1⟩
  | 1 =>
    have e : (cB, FieldType.byte) = q := Option.some.inj hk
    subst e
    exact ⟨fun n z => ⟨fun k h => (by cases h), kB, b2, compB, b3⟩, b1⟩
  | 2 =>
    have e : (cS, FieldType.object "ShadowTheatre$Sheet") = q := Option.some.inj hk
    subst e
    exact ⟨fun n z => ⟨fun k h => (by cases h), kS, f3, comp, f4⟩, kS, comp, f3, f4, f1, f5⟩
  | k + 3 =>
    have hl : k + 3 < 3 := (List.getElem?_eq_some_iff.mp hk).1
    omega
def nTm (i : Nat) : Term := match i with
  | 0 => .string "ShadowTheatre$Troupe" 45
  | _ => .string "ShadowTheatre$Cues" 36
theorem n_ev0 {args : Array Value} {s : State} (hts : ∀ w ∈ lw_tbl, w.before args s = true) (hgv : (Jvm.Cond.and given_1 narrow_1).before args s = true) : ∃ b0 b1 t0 t1 : Nat, ∀ a : Nat → Nat, a 51 = b0 → a 52 = b1 → a 53 = t0 → a 54 = t1 → nEv a s.heap.size s s.heap := by
  have hs := flat_of_before _ hgv
  have hA : ∀ a : Nat, a < s.heap.size → ¬ s.heap.size ≤ a := fun a h => Nat.not_le.mpr h
  obtain ⟨adK, adV, hS, hev⟩ := vk_Sof (args := args) (s := s) (N := 2) (tm := nTm) (len := [4, 4]) (byt := [[107, 114, 103, 98], [108, 114, 102, 98]]) (A := fun q => s.heap.size ≤ q)
    (fun i hi => match i, hi with | 0, _ => by decide | 1, _ => by decide)
    (fun i hi => match i, hi with | 0, _ => hs _ (by decide +kernel) | 1, _ => hs _ (by decide +kernel))
    (fun i hi => match i, hi with | 0, _ => hs _ (by decide +kernel) | 1, _ => hs _ (by decide +kernel))
    (fun i hi => match i, hi with | 0, _ => hs _ (by decide +kernel) | 1, _ => hs _ (by decide +kernel))
    (fun i hi => match i, hi with | 0, _ => hs _ (by decide +kernel) | 1, _ => hs _ (by decide +kernel))
    (fun i hi j hj => match i, hi, j, hj with
      | 0, _, 0, _ => hs _ (by decide +kernel) | 0, _, 1, _ => hs _ (by decide +kernel) | 0, _, 2, _ => hs _ (by decide +kernel) | 0, _, 3, _ => hs _ (by decide +kernel)
      | 1, _, 0, _ => hs _ (by decide +kernel) | 1, _, 1, _ => hs _ (by decide +kernel) | 1, _, 2, _ => hs _ (by decide +kernel) | 1, _, 3, _ => hs _ (by decide +kernel))
    (fun i j hi hj hij => match i, j, hi, hj with
      | 0, 0, _, _ => absurd rfl hij | 1, 1, _, _ => absurd rfl hij
      | 0, 1, _, _ => Or.inl (hs _ (by decide +kernel)) | 1, 0, _, _ => Or.inr (hs _ (by decide +kernel)))
    hA
  refine ⟨adV 0, adV 1, adK 0, adK 1, fun a e0 e1 e2 e3 => ⟨fun k hk => ?_, fun k hk => ?_, ?_, fun i hi => ?_, ?_, ?_⟩⟩
  · have f0 : (fun j => Value.int ((qw_ro wC (51 + 0)).1 j)) = (fun j => Value.int ((([[107, 114, 103, 98], [108, 114, 102, 98]] : List (List Int32)).getD 0 []).getD j 0)) := by
      funext j
      exact congrArg Value.int (nth_getD _ j)
    have f1 : (fun j => Value.int ((qw_ro wC (51 + 1)).1 j)) = (fun j => Value.int ((([[107, 114, 103, 98], [108, 114, 102, 98]] : List (List Int32)).getD 1 []).getD j 0)) := by
      funext j
      exact congrArg Value.int (nth_getD _ j)
    match k, hk with
    | 0, _ =>
      rw [f0, show 51 + 0 = 51 from rfl, e0]
      exact (hS.1 0 (by decide)).2.2.2
    | 1, _ =>
      rw [f1, show 51 + 1 = 52 from rfl, e1]
      exact (hS.1 1 (by decide)).2.2.2
  · match k, hk with
    | 0, _ =>
      rw [show 51 + 0 = 51 from rfl, e0]
      exact (hS.1 0 (by decide)).2.2.2.out
    | 1, _ =>
      rw [show 51 + 1 = 52 from rfl, e1]
      exact (hS.1 1 (by decide)).2.2.2.out
  · exact va_Zof (hts _ (by decide +kernel)) (hts _ (by decide +kernel)) (va_eqi (hs _ (by decide +kernel))) hA
  · match i, hi with
    | 0, _ =>
      rw [show 53 + 0 = 53 from rfl, show 51 + 0 = 51 from rfl, e0, e2]
      exact ⟨(hS.1 0 (by decide)).1, (hS.1 0 (by decide)).2.2.1, (hS.1 0 (by decide)).2.1⟩
    | 1, _ =>
      rw [show 53 + 1 = 54 from rfl, show 51 + 1 = 52 from rfl, e1, e3]
      exact ⟨(hS.1 1 (by decide)).1, (hS.1 1 (by decide)).2.2.1, (hS.1 1 (by decide)).2.1⟩
  · rw [e2]
    exact vk_R.of (hts _ (by decide +kernel)) (hev 0 (by decide))
  · rw [e3]
    exact vk_R.of (hts _ (by decide +kernel)) (hev 1 (by decide))
