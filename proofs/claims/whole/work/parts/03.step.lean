/-! CORE 3: one instruction, on the machine -/
section QS2
variable {tw : List Cond} {w : qw_Wd} {K : qw_K} {Y : qw_Y} {Q : Option Value → qw_M → Prop}
theorem qw_P.put {g : qw_Ad} {σ : qw_M} {H : Heap} {o : Nat} {r : qw_R} {X : va_E} (ho : o < qw_n w) (he : qw_re g r (qw_cf w o r) = X) (h : va_P g.1 (qw_cl w) ((qw_ws w g σ).set o (g.2.1 o, X)) H) : qw_P w g (qw_up σ o r) H := by
  rw [qw_ws_set ho he] at h
  exact h
theorem qw_lt {a b : Nat} (h : Nat.blt a b = true) : a < b := Nat.le_of_ble_eq_true h
theorem qw_blind {g : qw_Ad} {av : List Value} {σ : qw_M} : FrameBlind (va_Pc av (fun U => qw_P w g σ U.heap ∧ va_K g.1 (qw_cl w) (qw_ts w g) U ∧ qw_env w g U U.heap)) := fun a U f mk h =>
  ⟨h.1, h.2.1, va_K.moved (u := U) (U := U.calling f mk a) (Vm.Alike.refl U.vm) h.2.2.1, fun k hk => (h.2.2.2.1 k hk).imp fun N hN => ⟨hN.1, va_T.moved (u := U) (U := U.calling f mk a) (Vm.Alike.refl U.vm) hN.2⟩, h.2.2.2.2.1, fun q hq => va_Z.moved (u := U) (U := U.calling f mk a) (Vm.Alike.refl U.vm) (h.2.2.2.2.2.1 q hq), fun q hq => va_Nw.same (u := U) (U := U.calling f mk a) rfl rfl (h.2.2.2.2.2.2.1 q hq), fun i hi => ⟨va_O.moved (u := U) (U := U.calling f mk a) (Vm.Alike.refl U.vm) (h.2.2.2.2.2.2.2.1 i hi).1, va_OF.moved (u := U) (U := U.calling f mk a) (Vm.Alike.refl U.vm) (h.2.2.2.2.2.2.2.1 i hi).2.1, va_OF.moved (u := U) (U := U.calling f mk a) (Vm.Alike.refl U.vm) (h.2.2.2.2.2.2.2.1 i hi).2.2⟩, fun q hq => vk_R.same (u := U) (U := U.calling f mk a) rfl (h.2.2.2.2.2.2.2.2 q hq)⟩
theorem qw_env.to {g : qw_Ad} {u U : State} {H H1 : Heap} {locs : List Loc} (h : qw_env w g u H) (hW : u.WarmedH U.vm) (hS : va_S (qw_A w g) H H1 locs) : qw_env w g U H1 := by
  exact ⟨fun k hk => (h.1 k hk).imp fun N hN => ⟨hN.1, (hN.2.kept (fun a h1 h2 => hS.2.1 a h1 h2)).moved hW.alike⟩, h.2.1, fun q hq => va_Z.moved hW.alike ((h.2.2.1 q hq).kept (fun a h1 h2 => hS.2.1 a h1 h2)), fun q hq => va_Nw.warmF hW (h.2.2.2.1 q hq), fun i hi => ⟨((h.2.2.2.2.1 i hi).1.kept (fun a h1 h2 => hS.2.1 a h1 h2)).moved hW.alike, ((h.2.2.2.2.1 i hi).2.1.kept (fun a h1 h2 => hS.2.1 a h1 h2)).moved hW.alike, ((h.2.2.2.2.1 i hi).2.2.kept (fun a h1 h2 => hS.2.1 a h1 h2)).moved hW.alike⟩, fun q hq => vk_R.warm hW (h.2.2.2.2.2 q hq)⟩
/-- behind a call -/
theorem qw_go {p : Program} {l : Launch} {e : Env} {R : Room} {s : State} {m : MethodId} {args : Array Value} {below : List Frame} {meth : Method} {c : Code} {g : qw_Ad} {H H0 : Heap} {locs : List Loc} {Qf : State → Prop} {pc : Nat} {ls : Array Slot} {rest st0 : List Value} {a : Array Value} {Yc : qw_Y} {Qc : Option Value → qw_M → Prop}
    (hr : va_Run p l e R s m args below meth c H locs 0 0 0 0 (F0 m pc ls st0) rest (qw_Z w g Yc Qc a) (qw_A w g)) (hS : va_S (qw_A w g) H0 H locs)
    (kk : ∀ (r : Option Value) (σ' : qw_M) (H1 : Heap) (locs1 : List Loc), qw_sh (qw_yr Yc) r → Qc r σ' → qw_P w g σ' H1 → va_S (qw_A w g) H0 H1 locs1 → W p l e R s m args below meth c H1 locs1 0 0 Qf (F0 m (pc + 3) ls ((r.map (qw_rv g.2.1)).toList ++ rest))) : W p l e R s m args below meth c H locs 0 0 Qf (F0 m pc ls st0) := by
  intro T hT X
  obtain ⟨v, st₀, t, T', L, h0, X', hL, e1, e2, ⟨⟨r, σ', hv, hp, hq, hb⟩, hz, hk⟩, st⟩ := hr T hT X
  cases hv
  rw [h0] at hz hk
  obtain ⟨t2, a1, b1⟩ := kk r σ' T'.heap (locs ++ L) hp hq (by rw [e1]; exact hb)
    ⟨Nat.le_trans hS.1 (by rw [e1]; exact hz), fun q h1 h2 => by rw [e1, hk q (Nat.lt_of_lt_of_le h1 hS.1) (fun z => h2 z)]; exact hS.2.1 q h1 h2, fun q hq => by
      rcases List.mem_append.mp hq with h | h
      · exact hS.2.2 q h
      · exact hL q h⟩ T' rfl X'
  exact ⟨t2, st t2 a1, b1⟩
/-- a call's end, by the kind of the answer -/
theorem qw_cont {av rest : List Value} {σ : qw_M} {Yc : qw_Y} {f : List Value → qw_M → Prop} (h : qw_cal tw w Y Yc av rest σ f) : (rest.map fun v => v.category).sum ≤ 8 ∧ qw_yf Yc + 1 ≤ qw_yf Y ∧ 8 + (qw_ym Yc + 11) + qw_yl Yc ≤ qw_yl Y ∧ ∃ Qc, qw_Mt tw w Yc av σ Qc ∧ ∀ r σ', qw_sh (qw_yr Yc) r → Qc r σ' → f (r.toList ++ rest) σ' := by
  obtain ⟨h1, Qc, h2, h3⟩ := h
  split at h1
  · rename_i e1 e2 e3
    refine ⟨Nat.le_of_ble_eq_true e1, Nat.le_of_ble_eq_true e2, Nat.le_of_ble_eq_true e3, Qc, h2, fun r σ' hs hq => ?_⟩
    generalize qw_yr Yc = t at hs h3
    cases t with
    | none =>
      have hs : r = none := hs
      subst hs
      exact h3 σ' hq
    | some t =>
      cases t with
      | int => obtain ⟨x, rfl⟩ := hs; exact h3 x σ' hq
      | long => obtain ⟨x, rfl⟩ := hs; exact h3 x σ' hq
      | boolean =>
        rcases hs with rfl | rfl
        · exact h3 0 σ' (Or.inl rfl) hq
        · exact h3 1 σ' (Or.inr rfl) hq
      | object C =>
        rcases hs with rfl | ⟨k, rfl⟩
        · exact h3.1 σ' hq
        · exact h3.2 k σ' hq
      | byte => obtain ⟨x, rfl⟩ := hs; exact h3 x σ' hq
      | char => obtain ⟨x, rfl⟩ := hs; exact h3 x σ' hq
      | short => obtain ⟨x, rfl⟩ := hs; exact h3 x σ' hq
      | float => obtain ⟨x, rfl⟩ := hs; exact h3 x σ' hq
      | double => obtain ⟨x, rfl⟩ := hs; exact h3 x σ' hq
      | array C => obtain ⟨x, rfl⟩ := hs; exact h3 x σ' hq
  · exact h1.elim
/-- what a branch of numbers asks, on the machine -/
theorem qw_Ev.br {c a b : Prop} {A B : Prop} (h : qw_br c a b) (ha : a → A) (hb : b → B) : (c → A) ∧ (¬ c → B) := ⟨fun z => ha (h.1 z), fun z => hb (h.2 z)⟩
theorem qw_Ev.nb {c a b : Prop} {A B : Prop} (h : qw_nb c a b) (ha : a → A) (hb : b → B) : (¬ c → A) ∧ (c → B) := ⟨fun z => ha (h.1 z), fun z => hb (h.2 z)⟩
theorem qw_toS {g : qw_Ad} {lsA : Array Slot} {ls : qw_L} {n : Nat} (h : lv_has lsA n ls) : lsA.size = n := h.1
end QS2
