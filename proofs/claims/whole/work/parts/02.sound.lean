/-! CORE 2: what the conditions of CORE 1 say holds of the machine -/
def qw_wf (w : qw_Wd) : Prop :=
  (∀ k r q, qw_cf w k r = .inl q → ∀ r', qw_cf w k r' = .inl q) ∧
  (∀ k r c, qw_cf w k r = .inr (.inr c) → ∀ j, (qw_kd w c.1 j = 1 → j < c.2.length ∧ ∀ x, qw_cf w k (upd r.1 j x, r.2) = .inr (.inr (c.1, c.2.set j (.int x)))) ∧ (qw_kd w c.1 j = 2 → j < c.2.length ∧ ∀ x, qw_cf w k (r.1, vp_updL r.2 j x) = .inr (.inr (c.1, c.2.set j (.long x)))))
def qw_cok (tw : List Cond) (w : qw_Wd) : Prop := ∀ ci q, (qw_cl w)[ci]? = some q → (∃ ty0 : Nat → FieldType, ∀ k, k < q.2.2 → parseFieldDescriptor (q.2.1 k).2.2.1 = some (ty0 k)) ∧ (∀ a, a < q.2.2 → ∀ b, b < q.2.2 → a ≠ b → (q.2.1 a).2.1 ≠ (q.2.1 b).2.1) ∧ (∀ x ∈ u_ws q.1 q.2.1 q.2.2, x ∈ tw) ∧
  ∀ j, (qw_kd w ci j = 1 → j < q.2.2 ∧ parseFieldDescriptor (q.2.1 j).2.2.1 = some .int ∧ (q.2.1 j).2.2.2 = false) ∧ (qw_kd w ci j = 2 → j < q.2.2 ∧ parseFieldDescriptor (q.2.1 j).2.2.1 = some .long ∧ (q.2.1 j).2.2.2 = false)
def qw_tok (w : qw_Wd) : Prop := qw_ty w 0 = .int ∧ qw_ty w 1 = .byte ∧ (∃ C, qw_ty w 2 = .object C) ∧ 2 < qw_nT w ∧ (qw_cl w)[13]? = none
def qw_kok (tw : List Cond) (w : qw_Wd) (K : qw_K) : Prop :=
  (∀ j q, qw_lk (qw_kf K) j = some q → ∃ c, (qw_cl w)[q.1]? = some c ∧ q.2 < c.2.2 ∧ (Cond.fieldLink (qw_kn K) j (c.2.1 q.2).1 (c.2.1 q.2).2.1 (c.2.1 q.2).2.2.1 ∈ tw ∨ ∃ host, (qw_kn K, j, (c.2.1 q.2).1, (c.2.1 q.2).2.1, (c.2.1 q.2).2.2.1, host) ∈ qw_nst w)) ∧
  (∀ j q, qw_lk (qw_kc K) j = some q → qw_yc q.2 ∈ tw ∧ Cond.methodLink (qw_kn K) j (qw_yn q.2) ∈ tw ∧ Cond.initialized (qw_yn q.2).cls ∈ tw ∧ ((qw_yn q.2).cls ≠ "java/lang/invoke/MethodHandle" ∧ (qw_yn q.2).cls ≠ "java/lang/invoke/VarHandle" ∧ (parseMethodDescriptor (qw_yn q.2).desc).map (fun d => d.parameters.length) = some (qw_yp q.2)) ∧
    (q.1 = none → Cond.static (qw_yn q.2) ∈ tw) ∧ (∀ ci, q.1 = some ci → Cond.instanceMethod (qw_yn q.2) ∈ tw ∧ Cond.selects (qw_yn q.2).cls (qw_yn q.2) (qw_yn q.2) ∈ tw ∧ ((ci = 13 ∧ (qw_yn q.2).cls = "java/lang/String") ∨ ∃ c, (qw_cl w)[ci]? = some c ∧ c.1 = (qw_yn q.2).cls))) ∧
  (∀ j v, qw_lk (qw_ki K) j = some v → Cond.constant (qw_kn K) j v ∈ tw) ∧
  (∀ j v, qw_lk (qw_kl K) j = some v → Cond.constantLong (qw_kn K) j v ∈ tw) ∧
  (∀ j q z, qw_lk (qw_kg K) j = some q → (qw_sta w)[q]? = some z → Cond.fieldLink (qw_kn K) j z.1 z.2.1 z.2.2.1 ∈ tw) ∧
  (∀ j, (Nat.beq j (qw_ka K) && Nat.blt 0 j) = true → Cond.methodLink (qw_kn K) j arraycopyName ∈ tw ∧ Cond.native arraycopyName ∈ tw ∧ Cond.static arraycopyName ∈ tw ∧ Cond.initialized "java/lang/System" ∈ tw) ∧
  (∀ j i, qw_lk (qw_ks K) j = some i → ∃ tx, (qw_kn K, j, tx, i) ∈ qw_strs w) ∧
  (∀ j i, qw_lk (qw_kx K) j = some i → (i = 0 → Cond.fieldLink (qw_kn K) j "java/lang/String" "value" "[B" ∈ tw) ∧ (i = 1 → Cond.fieldLink (qw_kn K) j "java/lang/String" "coder" "B" ∈ tw))
def qw_good (tw : List Cond) : Prop := ∀ x ∈ tw, (x.onTables && x.keeps) = true ∨ ∃ ty, x = .arrayClass ty
def qw_ok (tw : List Cond) (w : qw_Wd) (K : qw_K) : Prop := qw_good tw ∧ qw_wf w ∧ qw_cok tw w ∧ qw_tok w ∧ qw_kok tw w K
/-- the machine in a method's frame -/
def qw_At (tw : List Cond) (w : qw_Wd) (K : qw_K) (Y : qw_Y) (p : Program) (s : State) (m : MethodId) (args : Array Value) (meth : Method) (c : Code) (g : qw_Ad) : Prop :=
  p.tables.exec = Jvm.exec ∧ c.code = qw_yb Y ∧ meth.sig.returnType = qw_yr Y ∧ c.maxLocals = qw_ym Y ∧ s.vm.findClass (qw_kn K) = some m.cls ∧ (∀ x ∈ qw_yc Y :: tw, x.before args s = true) ∧ meth.locks = false ∧ qw_I w g ∧ va_K g.1 (qw_cl w) (qw_ts w g) s ∧ qw_env w g s s.heap
def qw_Ev (tw : List Cond) (w : qw_Wd) (K : qw_K) (Y : qw_Y) (Q : Option Value → qw_M → Prop) (pc : Nat) (ls : qw_L) (st : List Value) (σ : qw_M) : Prop :=
  ∀ (p : Program) (l : Launch) (e : Env) (s : State) (m : MethodId) (args : Array Value) (below : List Frame) (meth : Method) (c : Code) (g : qw_Ad), qw_At tw w K Y p s m args meth c g → ∀ (H : Heap) (locs : List Loc), qw_P w g σ H → va_S (qw_A w g) s.heap H locs → ∀ lsA : Array Slot, lv_has lsA (qw_ym Y) (qw_lm g.2.1 ls) →
    W p l e (qw_rm Y) s m args below meth c H locs 0 0 (MQ below (qw_Z w g Y Q) args s 0 0 (qw_A w g)) (F0 m pc lsA (st.map (qw_rv g.2.1)))
section QS1
variable {tw : List Cond} {w : qw_Wd} {K : qw_K} {Y : qw_Y} {Q : Option Value → qw_M → Prop} {g : qw_Ad} {σ : qw_M}
theorem qw_ws_at {k : Nat} (h : k < qw_n w) : (qw_ws w g σ)[k]? = some (g.2.1 k, qw_re g (σ k) (qw_cf w k (σ k))) := by
  simp [qw_ws, h]
theorem qw_wr_at {k : Nat} (h : k < qw_nR w) : (qw_wr w g)[k]? = some (g.2.1 (qw_n w + k), qw_re g (qw_ro w (qw_n w + k)) (qw_cf w (qw_n w + k) (qw_ro w (qw_n w + k)))) := by
  simp [qw_wr, h]
theorem qw_ts_at {t : Nat} (h : t < qw_nT w) : (qw_ts w g)[t]? = some (g.2.2 t, qw_ty w t) := by
  simp [qw_ts, h]
theorem qw_rw_inv {k : Nat} {f : qw_R → Prop} (h : qw_rw w σ k f) : f (qw_row w σ k) := by
  unfold qw_rw at h
  unfold qw_row
  cases e : Nat.blt k (qw_n w) with
  | true =>
    rw [e] at h
    exact h
  | false =>
    rw [e] at h
    exact h
theorem qw_ws_of {k : Nat} {q : Nat × va_E} (h : (qw_ws w g σ)[k]? = some q) : k < qw_n w ∧ q = (g.2.1 k, qw_re g (σ k) (qw_cf w k (σ k))) := by
  have hk : k < qw_n w := by
    have := (List.getElem?_eq_some_iff.mp h).1
    simpa [qw_ws] using this
  rw [qw_ws_at hk] at h
  exact ⟨hk, (Option.some.inj h).symm⟩
theorem qw_D (hI : qw_I w g) : va_D (qw_A w g) (qw_ws w g σ) := by
  refine ⟨fun i j p q hi hj h => ?_, fun k q hk => ?_⟩
  · obtain ⟨h1, rfl⟩ := qw_ws_of hi
    obtain ⟨h2, rfl⟩ := qw_ws_of hj
    exact hI i j h1 h2 h
  · obtain ⟨h1, rfl⟩ := qw_ws_of hk
    exact ⟨k, h1, rfl⟩
theorem qw_ws_set {k : Nat} (h : k < qw_n w) {r : qw_R} {X : va_E} (he : qw_re g r (qw_cf w k r) = X) : (qw_ws w g σ).set k (g.2.1 k, X) = qw_ws w g (qw_up σ k r) := by
  subst he
  apply List.ext_getElem?
  intro j
  by_cases hj : j = k
  · subst hj
    rw [List.getElem?_set_self (by simpa [qw_ws] using h), qw_ws_at h]
    simp [qw_up]
  · rw [List.getElem?_set_ne (Ne.symm hj)]
    by_cases hl : j < qw_n w
    · rw [qw_ws_at hl, qw_ws_at hl]
      simp [qw_up, hj]
    · rw [List.getElem?_eq_none (by simp [qw_ws]; omega), List.getElem?_eq_none (by simp [qw_ws]; omega)]
theorem qw_lk_mem {α : Type} : ∀ {l : List (Nat × α)} {k : Nat} {v : α}, qw_lk l k = some v → (k, v) ∈ l
  | [], k, v, h => by simp [qw_lk] at h
  | q :: l, k, v, h => by
    unfold qw_lk at h
    split at h
    · rename_i hb
      have hb := Nat.eq_of_beq_eq_true hb
      cases h
      subst hb
      exact List.mem_cons_self
    · exact List.mem_cons_of_mem _ (qw_lk_mem h)
theorem qw_loc {lsA : Array Slot} {n : Nat} {a : Nat → Nat} {ls : qw_L} (h : lv_has lsA n (qw_lm a ls)) {j : Nat} {v : Value} (hv : qw_lk ls j = some v) : lsA[j]? = some (.val (qw_rv a v)) :=
  h.2.2 (j, qw_rv a v) (List.mem_map.mpr ⟨(j, v), qw_lk_mem hv, rfl⟩)
theorem qw_sins_mem {p q : Nat × Value} : ∀ {l : qw_L}, q ∈ qw_sins p l → q = p ∨ q ∈ l
  | [], h => by
    unfold qw_sins at h
    exact Or.inl (List.mem_singleton.mp h)
  | x :: l, h => by
    unfold qw_sins at h
    split at h
    · rcases List.mem_cons.mp h with e | e
      · exact Or.inr (e ▸ List.mem_cons_self)
      · rcases qw_sins_mem e with e | e
        · exact Or.inl e
        · exact Or.inr (List.mem_cons_of_mem _ e)
    · rcases List.mem_cons.mp h with e | e
      · exact Or.inl e
      · exact Or.inr e
theorem qw_cat (a : Nat → Nat) (v : Value) : (qw_rv a v).category = v.category := by cases v <;> rfl
theorem qw_has1 {lsA : Array Slot} {n : Nat} {a : Nat → Nat} {ls : qw_L} {i : Nat} {v : Value} (h : lv_has lsA n ((i, qw_rv a v) :: (qw_lm a ls).filter (fun q => !(q.1 == i) && !(q.1 + 1 == i && q.2.category == 2)))) : lv_has lsA n (qw_lm a (qw_s1 ls i v)) := by
  refine ⟨h.1, h.2.1, fun q hq => ?_⟩
  obtain ⟨q0, h0, rfl⟩ := List.mem_map.mp hq
  rcases qw_sins_mem h0 with rfl | h1
  · exact h.2.2 _ List.mem_cons_self
  · refine h.2.2 _ (List.mem_cons_of_mem _ (List.mem_filter.mpr ⟨List.mem_map.mpr ⟨q0, (List.mem_filter.mp h1).1, rfl⟩, ?_⟩))
    have h2 := (List.mem_filter.mp h1).2
    simpa only [qw_cat] using h2
theorem qw_has2 {lsA : Array Slot} {n : Nat} {a : Nat → Nat} {ls : qw_L} {i : Nat} {v : Value} (h : lv_has lsA n ((i, qw_rv a v) :: (qw_lm a ls).filter (fun q => !(q.1 == i) && (!(q.1 == i + 1) && !(q.1 + 1 == i && q.2.category == 2))))) : lv_has lsA n (qw_lm a (qw_s2 ls i v)) := by
  refine ⟨h.1, h.2.1, fun q hq => ?_⟩
  obtain ⟨q0, h0, rfl⟩ := List.mem_map.mp hq
  rcases qw_sins_mem h0 with rfl | h1
  · exact h.2.2 _ List.mem_cons_self
  · refine h.2.2 _ (List.mem_cons_of_mem _ (List.mem_filter.mpr ⟨List.mem_map.mpr ⟨q0, (List.mem_filter.mp h1).1, rfl⟩, ?_⟩))
    have h2 := (List.mem_filter.mp h1).2
    simpa only [qw_cat] using h2
theorem qw_tg_inv {pc : Nat} {off : Int} {f : Nat → Prop} (h : qw_tg pc off f) : ∃ t : Nat, (pc : Int) + off = (t : Int) ∧ f t := by
  unfold qw_tg at h
  split at h
  · rename_i t ht
    exact ⟨t, ht, h⟩
  · exact h.elim
theorem qw_sw_inv {pc : Nat} {x : Int} {f : Nat → Prop} : ∀ {offs : List Int} {v : Int}, qw_sw pc offs x v f → ∀ (j : Nat) (off : Int), offs[j]? = some off → x = v + j → qw_tg pc off f
  | [], v, _, j, off, h, _ => by simp at h
  | o :: l, v, hs, j, off, h, hx => by
    obtain ⟨h1, h2⟩ := hs
    cases j with
    | zero =>
      simp at h
      subst h
      exact h1 (by simpa using hx)
    | succ j => exact qw_sw_inv h2 j off (by simpa using h) (by rw [hx]; push_cast; omega)
theorem qw_i1_inv {st : List Value} {f : Int32 → List Value → Prop} (h : qw_i1 st f) : ∃ x r, st = .int x :: r ∧ f x r := by
  unfold qw_i1 at h
  split at h
  · exact ⟨_, _, rfl, h⟩
  · exact h.elim
theorem qw_i2_inv {st : List Value} {f : Int32 → Int32 → List Value → Prop} (h : qw_i2 st f) : ∃ x y r, st = .int y :: .int x :: r ∧ f x y r := by
  unfold qw_i2 at h
  split at h
  · exact ⟨_, _, _, rfl, h⟩
  · exact h.elim
theorem qw_l1_inv {st : List Value} {f : Int64 → List Value → Prop} (h : qw_l1 st f) : ∃ x r, st = .long x :: r ∧ f x r := by
  unfold qw_l1 at h
  split at h
  · exact ⟨_, _, rfl, h⟩
  · exact h.elim
theorem qw_l2_inv {st : List Value} {f : Int64 → Int64 → List Value → Prop} (h : qw_l2 st f) : ∃ x y r, st = .long y :: .long x :: r ∧ f x y r := by
  unfold qw_l2 at h
  split at h
  · exact ⟨_, _, _, rfl, h⟩
  · exact h.elim
theorem qw_o1_inv {st : List Value} {f : Nat → List Value → Prop} (h : qw_o1 st f) : ∃ o r, st = .ref o :: r ∧ f o r := by
  unfold qw_o1 at h
  split at h
  · exact ⟨_, _, rfl, h⟩
  · exact h.elim
theorem qw_dec1 {cc : ByteArray} {pc : Nat} {i : Instr} (h : qw_dec cc pc i) (hi : qw_isw i = false) : decode cc pc = .ok (i, qw_len i) := by
  obtain ⟨n, h1, h2 | h2⟩ := h
  · rw [h1, h2]
  · rw [hi] at h2; cases h2
theorem qw_okb_dec {cc : ByteArray} {q : Nat × Instr} (h : qw_okb cc q = true) : qw_dec cc q.1 q.2 := by
  unfold qw_okb at h
  split at h
  · rename_i j n hd
    simp only [Bool.and_eq_true, decide_eq_true_eq, Bool.or_eq_true] at h
    obtain ⟨h1, h2⟩ := h
    refine ⟨n, by rw [hd, h1], h2.imp (fun z => Nat.eq_of_beq_eq_true z) id⟩
  · cases h
/-- a cell that may be read, where it lies -/
theorem qw_cell {H0 H : Heap} {U : State} {locs : List Loc} (hP : qw_P w g σ H) (hE : qw_env w g U H0) (hS : va_S (qw_A w g) H0 H locs) {o : Nat} (ho : o < qw_n w + qw_nR w) : (∃ (ws : va_W) (q0 : Nat), va_P g.1 (qw_cl w) ws H ∧ ws[q0]? = some (g.2.1 o, qw_re g (qw_row w σ o) (qw_cf w o (qw_row w σ o)))) ∨ ∃ N, qw_cf w o (qw_row w σ o) = .inl (1, N) ∧ va_T .byte (g.2.1 o) N (fun j => .int ((qw_row w σ o).1 j)) (qw_A w g) U H0 := by
  by_cases h : o < qw_n w
  · refine Or.inl ⟨_, o, hP, ?_⟩
    rw [qw_ws_at h]
    have : Nat.blt o (qw_n w) = true := Nat.ble_eq_true_of_le h
    simp only [qw_row, this]
  · obtain ⟨j, rfl⟩ : ∃ j, o = qw_n w + j := ⟨o - qw_n w, by omega⟩
    have hj : j < qw_nR w := by omega
    have : Nat.blt (qw_n w + j) (qw_n w) = false := by
      cases hb : Nat.blt (qw_n w + j) (qw_n w) with
      | false => rfl
      | true => exact absurd (Nat.le_of_ble_eq_true hb) (by omega)
    obtain ⟨N, h1, h2⟩ := hE.1 j hj
    refine Or.inr ⟨N, ?_, ?_⟩
    · simp only [qw_row, this]
      exact h1
    · simp only [qw_row, this]
      exact h2
end QS1
