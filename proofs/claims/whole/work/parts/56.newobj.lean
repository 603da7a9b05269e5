/-! CONSTRUCTORS (printed by wip/whole/gen56.py) -/
theorem mE_max (x y : Int32) {σ : qw_M} : qw_Mt qw_tw wE my_J9_max [.int x, .int y] σ (fun r _ => r = some (.int (if x < y then y else x))) := by
  refine mtE_J9_max rfl (evE_J9_max [] 100 ?_)
  refine vb (fun a => ?_) (fun a => ?_)
  · exact (show (some (Value.int y) : Option Value) = some (.int (if x < y then y else x)) by rw [if_pos a])
  · exact (show (some (Value.int x) : Option Value) = some (.int (if x < y then y else x)) by rw [if_neg a])
theorem mE_rayTo {L d p : Nat} (hd : 1 ≤ d) {σ : qw_M} : qw_Mt qw_tw wE my_X8_rayTo [.int (nI L), .int (nI d), .int (nI p)] σ (fun r _ => r = some (.int (nI (ridx L d p)))) := by
  refine mtE_X8_rayTo rfl (evE_X8_rayTo [] 100 ?_)
  show some (Value.int ((nI L * nI 8 + nI d - nI 1) * nI 32 + nI p)) = _
  rw [pk_mul, nI_add, pk_sub (by omega), pk_mul, nI_add]
  rfl
theorem mF_forget {σ : qw_M} : qw_Mt qw_tw wF my_X8_forgetCovers [.ref 0] σ (fun _ σ' => σ' 0 = σ 0 ∧ ∀ f, f < 8 → (σ' 1).1 f = Int32.ofInt (Int.negSucc 0)) := by
  refine mtF_X8_forgetCovers rfl ?_
  have loop : ∀ (n j : Nat) (x : Int32) (σ' : qw_M), j + n = 8 → x = nI j → σ' 0 = σ 0 → (∀ f, f < j → (σ' 1).1 f = Int32.ofInt (Int.negSucc 0)) → qw_Ev qw_tw wF qf_8 my_X8_forgetCovers (fun _ σ' => σ' 0 = σ 0 ∧ ∀ f, f < 8 → (σ' 1).1 f = Int32.ofInt (Int.negSucc 0)) 2 [(0, .ref 0), (1, .int x)] [] σ' := by
    intro n
    induction n with
    | zero =>
      intro j x σ' hj hx hf hs
      subst hx
      refine evF_X8_forgetCovers [2] 100 ?_
      refine vt (nle 8 j (by omega) (by omega)) ?_
      exact ⟨hf, fun f hf8 => hs f (by omega)⟩
    | succ n ih =>
      intro j x σ' hj hx hf hs
      subst hx
      refine evF_X8_forgetCovers [2] 100 ?_
      refine vf (nnle 8 j (by omega) (by omega)) ?_
      refine And.intro (nin j 8 (by omega) (by omega)) ?_
      refine ih (j + 1) _ _ (by omega) (nI_add j 1) hf (fun f hfj => ?_)
      rw [nI_clamp (by omega)]
      by_cases e : f = j
      · subst e
        exact pi_eq
      · rw [pi_ne e]
        exact hs f (by omega)
  refine evF_X8_forgetCovers [2] 100 ?_
  exact loop 8 0 _ _ rfl rfl rfl (fun f h => absurd h (Nat.not_lt_zero f))
section NE0
variable {own : String} {cc : ByteArray} {nL : Nat} {g : qw_Ad} {z : Nat} {p : Program} {l : Launch} {e : Env} {R : Room} {s : State} {m : MethodId} {args : Array Value} {below : List Frame} {meth : Method} {c : Code} {H : Heap} {locs : List Loc} {cells slots : Nat} {Qf : State → Prop} {pc : Nat} {ls : Array Slot} {ws : va_W}
/-- a pure method called -/
theorem n_statE (C0 : nFr own cc nL g z p s m args c) (h : nWd g z ws H) (hS : nSt z s H locs) {Yc : qw_Y} {As rest : List Value} {idx : Nat} {v : Int32} (hM : qw_Mt qw_tw wE Yc As (fun _ => (fun _ => 0, fun _ => 0)) (fun r _ => r = some (.int v))) (hAs : ∀ a, As.map (qw_rv a) = As)
    (w1 : Cond.methodLink own idx (qw_yn Yc) ∈ qw_tw) (w2 : Cond.static (qw_yn Yc) ∈ qw_tw) (w3 : Cond.initialized (qw_yn Yc).cls ∈ qw_tw) (w4 : qw_yc Yc ∈ qw_tw) (hd : (qw_yn Yc).cls ≠ "java/lang/invoke/MethodHandle" ∧ (qw_yn Yc).cls ≠ "java/lang/invoke/VarHandle" ∧ (parseMethodDescriptor (qw_yn Yc).desc).map (fun d => d.parameters.length) = some As.length) (hR : qw_yf Yc + 1 ≤ R.frames ∧ 8 + (qw_ym Yc + 11) + qw_yl Yc ≤ R.locals) (hcs : cells ≤ R.cells ∧ slots ≤ R.slots) (hl : ls.size = nL) {st : List Value} (hst : st = As.reverse ++ rest) (hcat : (rest.map fun v => v.category).sum ≤ 8) (hdg : decode cc pc = .ok (.invokestatic idx, 3))
    (kk : ∀ (H1 : Heap) (locs1 : List Loc), nWd g z ws H1 → nSt z s H1 locs1 → W p l e R s m args below meth c H1 locs1 cells slots Qf (F0 m (pc + 3) ls (.int v :: rest))) : W p l e R s m args below meth c H locs cells slots Qf (F0 m pc ls st) := by
  have hno : ∀ q, ¬ qw_A wE g q := fun q ⟨k, hk, _⟩ => absurd hk (Nat.not_lt_zero k)
  refine n_stat (rest := rest) C0 hS hM (w := wE) (g' := g) (fun i j hi => absurd hi (Nat.not_lt_zero i)) (fun q hq => absurd hq (hno q)) (fun k q hk => (by cases hk)) C0.2.2.2.2.2.1.1 ⟨fun k hk => absurd hk (Nat.not_lt_zero k), fun k hk => absurd hk (Nat.not_lt_zero k), fun q hq => (by cases hq), C0.2.2.2.2.2.1.2.1, fun i hi => absurd hi (Nat.not_lt_zero i), fun q hq => (by cases hq)⟩ w1 w2 w3 w4 hd hR hcs hl (by rw [hAs]; exact hst) hcat hdg (fun r σ' H1 locs1 _ hq _ hk hS1 => ?_)
  subst hq
  exact kk H1 locs1 (h.keep fun q hq => hk.2 q hq (hno q)) hS1
end NE0
/-- rays as far as they are made -/
def nry (f : Nat → Int32) (L d c : Nat) : Prop := ∀ L' d' p c', L' < 32 → 1 ≤ d' → d' ≤ 8 → p < 32 → c' < 32 → bt (f (ridx L' d' p)) c' = (decide (ray L' d' c' = p) && decide (L' < L ∨ L' = L ∧ (d' < d ∨ d' = d ∧ c' < c)))
theorem nry.eq {f : Nat → Int32} {L d c L2 d2 c2 : Nat} (h : nry f L d c) (he : ∀ L' d' c', L' < 32 → 1 ≤ d' → d' ≤ 8 → c' < 32 → ((L' < L ∨ L' = L ∧ (d' < d ∨ d' = d ∧ c' < c)) ↔ (L' < L2 ∨ L' = L2 ∧ (d' < d2 ∨ d' = d2 ∧ c' < c2)))) : nry f L2 d2 c2 := by
  intro L' d' p c' h1 h2 h3 h4 h5
  rw [h L' d' p c' h1 h2 h3 h4 h5]
  congr 1
  exact decide_eq_decide.mpr (he L' d' c' h1 h2 h3 h5)
theorem nry.step {f : Nat → Int32} {L d c : Nat} (h : nry f L d c) (hL : L < 32) (hd : 1 ≤ d) (hd8 : d ≤ 8) (hc : c < 32) : nry (upd f (ridx L d (ray L d c)) (f (ridx L d (ray L d c)) ||| (nI 1 <<< (nI c &&& 31)))) L d (c + 1) := by
  intro L' d' p c' h1 h2 h3 h4 h5
  have hr := ray_lt hL hd8 hc (d := d)
  unfold upd
  by_cases e : ridx L' d' p = ridx L d (ray L d c)
  · obtain ⟨rfl, rfl, rfl⟩ := ridx_inj h2 h3 h4 hd hd8 hr e
    rw [if_pos rfl, b_or, bt_shl1 hc h5, h L' d' _ c' h1 h2 h3 h4 h5]
    by_cases e2 : c' = c
    · subst e2
      simp
    · have : (c' < c + 1) ↔ c' < c := by omega
      simp [e2, this]
  · rw [if_neg e, h L' d' p c' h1 h2 h3 h4 h5]
    by_cases e2 : L' = L ∧ d' = d ∧ c' = c
    · obtain ⟨rfl, rfl, rfl⟩ := e2
      have : ¬ ray L' d' c' = p := fun y => e (by rw [y])
      simp [this]
    · congr 1
      refine decide_eq_decide.mpr ?_
      omega
/-- all rays -/
def nRY (f : Nat → Int32) : Prop := ∀ L d p c, L < 32 → 1 ≤ d → d ≤ 8 → p < 32 → c < 32 → bt (f (ridx L d p)) c = decide (ray L d c = p)

theorem n_X5 {l : Launch} {g : qw_Ad} {z : Nat} {pre : va_W} {h0 : Nat} {x0 : Int32} {n0 : Nat} (hx : ¬ x0 < 0) (hn : x0.toNatClampNeg = n0) (hb : n0 * 4 ≤ 536870912) (hm : (if x0 < nI 0 then nI 0 else x0) = x0) : nMt l my_X5_init g z 1 21 1 (0 + n0) [.ref h0, .int x0] (pre ++ [(h0, eO 5 nb_5)]) (fun ws1 => ∃ q1 : Nat, ws1 = pre ++ [(h0, eO 5 [.ref q1, .int 0]), (q1, eA g n0 (fun _ => 0))]) := by
  refine nMt.of (by decide +kernel) rfl rfl ?_
  intro p e s m args below meth c C0 h lsA hl
  have hS : nSt z s s.heap [] := va_S.rf
  generalize hH : s.heap = H at h hS ⊢
  refine lv_aload_n C0.1.1 C0.1.2.1 dn_5_0 rfl (lv_at hl 0 rfl) ?_
  refine n_obj C0.1 tz_108 tz_101 tz_102 hl.1 (Nat.le_of_ble_eq_true rfl) (Nat.le_of_ble_eq_true rfl) dn_5_1 ?_
  refine lv_aload_n C0.1.1 C0.1.2.1 dn_5_4 rfl (lv_at hl 0 rfl) ?_
  refine lv_iload_n C0.1.1 C0.1.2.1 dn_5_5 rfl (lv_at hl 1 rfl) ?_
  refine lv_iconst (v := (nI 0)) C0.1.1 C0.1.2.1 dn_5_6 (by decide +kernel) ?_
  refine n_statE C0.1 h hS (rest := [.ref h0]) (mE_max x0 (nI 0)) (fun _ => rfl) tz_109 tz_110 tz_76 tz_111 ⟨by decide, by decide, (show (parseMethodDescriptor (qw_yn my_J9_max).desc).map (fun d => d.parameters.length) = some 2 by decide +kernel)⟩ ⟨(Nat.le_of_ble_eq_true rfl), (Nat.le_of_ble_eq_true rfl)⟩ ⟨(Nat.le_of_ble_eq_true rfl), by show 0 ≤ 0 + n0; omega⟩ hl.1 rfl (Nat.le_of_ble_eq_true rfl) dn_5_7 (fun H locs h hS => ?_)
  rw [hm]
  refine n_newa C0.1 h hS tz_125 (x := x0) (N := n0) hx hn (by omega) (by show 0 + 1 ≤ 1; decide) (by show 0 + n0 ≤ 0 + n0; omega) dn_5_10 (fun q1 H h hS => ?_)
  replace h : nWd g z (pre ++ [(h0, eO 5 nb_5), (q1, eA g n0 (fun _ => 0))]) H := nWd.asc h
  refine n_put C0.1 C0.2.2.2 h hS (pre.length + 0) (nx_at rfl) rfl qv_5_ok qu_5_ok qn_5_ok 0 (by decide) (Nat.le_of_ble_eq_true rfl) tz_112 rfl rfl rfl dn_5_12 (fun H locs h hS => ?_)
  replace h : nWd g z (pre ++ [(h0, eO 5 [.ref q1, .int 0]), (q1, eA g n0 (fun _ => 0))]) H := nWd.st h
  exact n_ret C0 h hS ⟨q1, rfl⟩ dn_5_15
theorem n_X2 {l : Launch} {g : qw_Ad} {z : Nat} {pre : va_W} {h0 : Nat} : nMt l my_X2_init g z 1 12 0 0 [.ref h0] (pre ++ [(h0, eO 2 nb_2)]) (fun ws1 => ws1 = pre ++ [(h0, eO 2 nb_2)]) := by
  refine nMt.of (by decide +kernel) rfl rfl ?_
  intro p e s m args below meth c C0 h lsA hl
  have hS : nSt z s s.heap [] := va_S.rf
  generalize hH : s.heap = H at h hS ⊢
  refine lv_aload_n C0.1.1 C0.1.2.1 dn_2_0 rfl (lv_at hl 0 rfl) ?_
  refine n_obj C0.1 tz_202 tz_101 tz_102 hl.1 (Nat.le_of_ble_eq_true rfl) (Nat.le_of_ble_eq_true rfl) dn_2_1 ?_
  exact n_ret C0 h hS rfl dn_2_4
theorem n_X1 {l : Launch} {g : qw_Ad} {z : Nat} {pre : va_W} {h0 : Nat} : nMt l my_X1_init g z 1 12 2 40 [.ref h0] (pre ++ [(h0, eO 1 nb_1)]) (fun ws1 => ∃ q1 : Nat, ∃ q2 : Nat, ws1 = pre ++ [(h0, eO 1 [.ref q1, .ref q2, .int 0, .int (Int32.ofInt (Int.negSucc 0))]), (q1, eA g 20 (fun _ => 0)), (q2, eA g 20 (fun _ => 0))]) := by
  refine nMt.of (by decide +kernel) rfl rfl ?_
  intro p e s m args below meth c C0 h lsA hl
  have hS : nSt z s s.heap [] := va_S.rf
  generalize hH : s.heap = H at h hS ⊢
  refine lv_aload_n C0.1.1 C0.1.2.1 dn_1_0 rfl (lv_at hl 0 rfl) ?_
  refine n_obj C0.1 tz_176 tz_101 tz_102 hl.1 (Nat.le_of_ble_eq_true rfl) (Nat.le_of_ble_eq_true rfl) dn_1_1 ?_
  refine lv_aload_n C0.1.1 C0.1.2.1 dn_1_4 rfl (lv_at hl 0 rfl) ?_
  refine lv_bipush (v := (nI 20)) C0.1.1 C0.1.2.1 dn_1_5 (by decide +kernel) ?_
  refine n_newa C0.1 h hS tz_125 (x := nI 20) (N := 20) (by decide) (by decide +kernel) (by decide) (Nat.le_of_ble_eq_true rfl) (Nat.le_of_ble_eq_true rfl) dn_1_7 (fun q1 H h hS => ?_)
  replace h : nWd g z (pre ++ [(h0, eO 1 nb_1), (q1, eA g 20 (fun _ => 0))]) H := nWd.asc h
  refine n_put C0.1 C0.2.2.2 h hS (pre.length + 0) (nx_at rfl) rfl qv_1_ok qu_1_ok qn_1_ok 0 (by decide) (Nat.le_of_ble_eq_true rfl) tz_177 rfl rfl rfl dn_1_9 (fun H locs h hS => ?_)
  replace h : nWd g z (pre ++ [(h0, eO 1 [.ref q1, .null, .int 0, .int 0]), (q1, eA g 20 (fun _ => 0))]) H := nWd.st h
  refine lv_aload_n C0.1.1 C0.1.2.1 dn_1_12 rfl (lv_at hl 0 rfl) ?_
  refine lv_bipush (v := (nI 20)) C0.1.1 C0.1.2.1 dn_1_13 (by decide +kernel) ?_
  refine n_newa C0.1 h hS tz_125 (x := nI 20) (N := 20) (by decide) (by decide +kernel) (by decide) (Nat.le_of_ble_eq_true rfl) (Nat.le_of_ble_eq_true rfl) dn_1_15 (fun q2 H h hS => ?_)
  replace h : nWd g z (pre ++ [(h0, eO 1 [.ref q1, .null, .int 0, .int 0]), (q1, eA g 20 (fun _ => 0)), (q2, eA g 20 (fun _ => 0))]) H := nWd.asc h
  refine n_put C0.1 C0.2.2.2 h hS (pre.length + 0) (nx_at rfl) rfl qv_1_ok qu_1_ok qn_1_ok 1 (by decide) (Nat.le_of_ble_eq_true rfl) tz_178 rfl rfl rfl dn_1_17 (fun H locs h hS => ?_)
  replace h : nWd g z (pre ++ [(h0, eO 1 [.ref q1, .ref q2, .int 0, .int 0]), (q1, eA g 20 (fun _ => 0)), (q2, eA g 20 (fun _ => 0))]) H := nWd.st h
  refine lv_aload_n C0.1.1 C0.1.2.1 dn_1_20 rfl (lv_at hl 0 rfl) ?_
  refine lv_iconst (v := (Int32.ofInt (Int.negSucc 0))) C0.1.1 C0.1.2.1 dn_1_21 (by decide +kernel) ?_
  refine n_put C0.1 C0.2.2.2 h hS (pre.length + 0) (nx_at rfl) rfl qv_1_ok qu_1_ok qn_1_ok 3 (by decide) (Nat.le_of_ble_eq_true rfl) tz_180 rfl rfl rfl dn_1_22 (fun H locs h hS => ?_)
  replace h : nWd g z (pre ++ [(h0, eO 1 [.ref q1, .ref q2, .int 0, .int (Int32.ofInt (Int.negSucc 0))]), (q1, eA g 20 (fun _ => 0)), (q2, eA g 20 (fun _ => 0))]) H := nWd.st h
  exact n_ret C0 h hS ⟨q1, q2, rfl⟩ dn_1_25
theorem n_X3 {l : Launch} {g : qw_Ad} {z : Nat} {pre : va_W} {h0 : Nat} : nMt l my_X3_init g z 2 32 1 3 [.ref h0] (pre ++ [(h0, eO 3 nb_3)]) (fun ws1 => ∃ q1 : Nat, ws1 = pre ++ [(h0, eO 3 [.ref q1, .int 0, .int (Int32.ofInt (Int.negSucc 0))]), (q1, eO 2 nb_2)]) := by
  refine nMt.of (by decide +kernel) rfl rfl ?_
  intro p e s m args below meth c C0 h lsA hl
  have hS : nSt z s s.heap [] := va_S.rf
  generalize hH : s.heap = H at h hS ⊢
  refine lv_aload_n C0.1.1 C0.1.2.1 dn_3_0 rfl (lv_at hl 0 rfl) ?_
  refine n_obj C0.1 tz_196 tz_101 tz_102 hl.1 (Nat.le_of_ble_eq_true rfl) (Nat.le_of_ble_eq_true rfl) dn_3_1 ?_
  refine lv_aload_n C0.1.1 C0.1.2.1 dn_3_4 rfl (lv_at hl 0 rfl) ?_
  refine n_new C0.1 h hS (ci := 2) (T := qt_2) (N := 3) (fs := nb_2) rfl qv_2_ok qu_2_ok nb_2_ok tz_197 tz_198 tz_81 (Nat.le_of_ble_eq_true rfl) (Nat.le_of_ble_eq_true rfl) dn_3_5 (fun q1 H h hS => ?_)
  refine lv_dup C0.1.1 C0.1.2.1 dn_3_8 rfl ?_
  refine n_callN C0.1 h hS (Yc := my_X2_init) (rest := [.ref q1, .ref h0]) (n_X2) (List.mem_of_getElem? (i := 4) rfl) tz_200 tz_81 tz_201 rfl rfl ⟨by decide, by decide, (show (parseMethodDescriptor (qw_yn my_X2_init).desc).map (fun d => d.parameters.length) = some 0 by decide +kernel)⟩ ⟨(Nat.le_of_ble_eq_true rfl), (Nat.le_of_ble_eq_true rfl)⟩ ⟨(Nat.le_of_ble_eq_true rfl), (Nat.le_of_ble_eq_true rfl)⟩ hl.1 rfl (Nat.le_of_ble_eq_true rfl) dn_3_9 (fun ws1 H locs hres h hS => ?_)
  obtain ⟨rfl⟩ := hres
  replace h : nWd g z (pre ++ [(h0, eO 3 nb_3), (q1, eO 2 nb_2)]) H := nWd.asc h
  refine n_put C0.1 C0.2.2.2 h hS (pre.length + 0) (nx_at rfl) rfl qv_3_ok qu_3_ok qn_3_ok 0 (by decide) (Nat.le_of_ble_eq_true rfl) tz_216 rfl rfl rfl dn_3_12 (fun H locs h hS => ?_)
  replace h : nWd g z (pre ++ [(h0, eO 3 [.ref q1, .int 0, .int 0]), (q1, eO 2 nb_2)]) H := nWd.st h
  refine lv_aload_n C0.1.1 C0.1.2.1 dn_3_15 rfl (lv_at hl 0 rfl) ?_
  refine lv_iconst (v := (Int32.ofInt (Int.negSucc 0))) C0.1.1 C0.1.2.1 dn_3_16 (by decide +kernel) ?_
  refine n_put C0.1 C0.2.2.2 h hS (pre.length + 0) (nx_at rfl) rfl qv_3_ok qu_3_ok qn_3_ok 2 (by decide) (Nat.le_of_ble_eq_true rfl) tz_219 rfl rfl rfl dn_3_17 (fun H locs h hS => ?_)
  replace h : nWd g z (pre ++ [(h0, eO 3 [.ref q1, .int 0, .int (Int32.ofInt (Int.negSucc 0))]), (q1, eO 2 nb_2)]) H := nWd.st h
  exact n_ret C0 h hS ⟨q1, rfl⟩ dn_3_20
theorem n_X9 {l : Launch} {g : qw_Ad} {z : Nat} {pre : va_W} {h0 : Nat} : nMt l my_X9_init g z 1 12 5 40 [.ref h0] (pre ++ [(h0, eO 9 nb_9)]) (fun ws1 => ∃ q1 : Nat, ∃ q2 : Nat, ∃ q3 : Nat, ∃ q4 : Nat, ∃ q5 : Nat, ws1 = pre ++ [(h0, eO 9 [.ref q1, .ref q2, .ref q3, .ref q4, .ref q5, .int 0, .int (Int32.ofInt (Int.negSucc 0))]), (q1, eA g 8 (fun _ => 0)), (q2, eA g 8 (fun _ => 0)), (q3, eA g 8 (fun _ => 0)), (q4, eA g 8 (fun _ => 0)), (q5, eA g 8 (fun _ => 0))]) := by
  refine nMt.of (by decide +kernel) rfl rfl ?_
  intro p e s m args below meth c C0 h lsA hl
  have hS : nSt z s s.heap [] := va_S.rf
  generalize hH : s.heap = H at h hS ⊢
  refine lv_aload_n C0.1.1 C0.1.2.1 dn_9_0 rfl (lv_at hl 0 rfl) ?_
  refine n_obj C0.1 tz_137 tz_101 tz_102 hl.1 (Nat.le_of_ble_eq_true rfl) (Nat.le_of_ble_eq_true rfl) dn_9_1 ?_
  refine lv_aload_n C0.1.1 C0.1.2.1 dn_9_4 rfl (lv_at hl 0 rfl) ?_
  refine lv_bipush (v := (nI 8)) C0.1.1 C0.1.2.1 dn_9_5 (by decide +kernel) ?_
  refine n_newa C0.1 h hS tz_125 (x := nI 8) (N := 8) (by decide) (by decide +kernel) (by decide) (Nat.le_of_ble_eq_true rfl) (Nat.le_of_ble_eq_true rfl) dn_9_7 (fun q1 H h hS => ?_)
  replace h : nWd g z (pre ++ [(h0, eO 9 nb_9), (q1, eA g 8 (fun _ => 0))]) H := nWd.asc h
  refine n_put C0.1 C0.2.2.2 h hS (pre.length + 0) (nx_at rfl) rfl qv_9_ok qu_9_ok qn_9_ok 0 (by decide) (Nat.le_of_ble_eq_true rfl) tz_138 rfl rfl rfl dn_9_9 (fun H locs h hS => ?_)
  replace h : nWd g z (pre ++ [(h0, eO 9 [.ref q1, .null, .null, .null, .null, .int 0, .int 0]), (q1, eA g 8 (fun _ => 0))]) H := nWd.st h
  refine lv_aload_n C0.1.1 C0.1.2.1 dn_9_12 rfl (lv_at hl 0 rfl) ?_
  refine lv_bipush (v := (nI 8)) C0.1.1 C0.1.2.1 dn_9_13 (by decide +kernel) ?_
  refine n_newa C0.1 h hS tz_125 (x := nI 8) (N := 8) (by decide) (by decide +kernel) (by decide) (Nat.le_of_ble_eq_true rfl) (Nat.le_of_ble_eq_true rfl) dn_9_15 (fun q2 H h hS => ?_)
  replace h : nWd g z (pre ++ [(h0, eO 9 [.ref q1, .null, .null, .null, .null, .int 0, .int 0]), (q1, eA g 8 (fun _ => 0)), (q2, eA g 8 (fun _ => 0))]) H := nWd.asc h
  refine n_put C0.1 C0.2.2.2 h hS (pre.length + 0) (nx_at rfl) rfl qv_9_ok qu_9_ok qn_9_ok 1 (by decide) (Nat.le_of_ble_eq_true rfl) tz_140 rfl rfl rfl dn_9_17 (fun H locs h hS => ?_)
  replace h : nWd g z (pre ++ [(h0, eO 9 [.ref q1, .ref q2, .null, .null, .null, .int 0, .int 0]), (q1, eA g 8 (fun _ => 0)), (q2, eA g 8 (fun _ => 0))]) H := nWd.st h
  refine lv_aload_n C0.1.1 C0.1.2.1 dn_9_20 rfl (lv_at hl 0 rfl) ?_
  refine lv_bipush (v := (nI 8)) C0.1.1 C0.1.2.1 dn_9_21 (by decide +kernel) ?_
  refine n_newa C0.1 h hS tz_125 (x := nI 8) (N := 8) (by decide) (by decide +kernel) (by decide) (Nat.le_of_ble_eq_true rfl) (Nat.le_of_ble_eq_true rfl) dn_9_23 (fun q3 H h hS => ?_)
  replace h : nWd g z (pre ++ [(h0, eO 9 [.ref q1, .ref q2, .null, .null, .null, .int 0, .int 0]), (q1, eA g 8 (fun _ => 0)), (q2, eA g 8 (fun _ => 0)), (q3, eA g 8 (fun _ => 0))]) H := nWd.asc h
  refine n_put C0.1 C0.2.2.2 h hS (pre.length + 0) (nx_at rfl) rfl qv_9_ok qu_9_ok qn_9_ok 2 (by decide) (Nat.le_of_ble_eq_true rfl) tz_142 rfl rfl rfl dn_9_25 (fun H locs h hS => ?_)
  replace h : nWd g z (pre ++ [(h0, eO 9 [.ref q1, .ref q2, .ref q3, .null, .null, .int 0, .int 0]), (q1, eA g 8 (fun _ => 0)), (q2, eA g 8 (fun _ => 0)), (q3, eA g 8 (fun _ => 0))]) H := nWd.st h
  refine lv_aload_n C0.1.1 C0.1.2.1 dn_9_28 rfl (lv_at hl 0 rfl) ?_
  refine lv_bipush (v := (nI 8)) C0.1.1 C0.1.2.1 dn_9_29 (by decide +kernel) ?_
  refine n_newa C0.1 h hS tz_125 (x := nI 8) (N := 8) (by decide) (by decide +kernel) (by decide) (Nat.le_of_ble_eq_true rfl) (Nat.le_of_ble_eq_true rfl) dn_9_31 (fun q4 H h hS => ?_)
  replace h : nWd g z (pre ++ [(h0, eO 9 [.ref q1, .ref q2, .ref q3, .null, .null, .int 0, .int 0]), (q1, eA g 8 (fun _ => 0)), (q2, eA g 8 (fun _ => 0)), (q3, eA g 8 (fun _ => 0)), (q4, eA g 8 (fun _ => 0))]) H := nWd.asc h
  refine n_put C0.1 C0.2.2.2 h hS (pre.length + 0) (nx_at rfl) rfl qv_9_ok qu_9_ok qn_9_ok 3 (by decide) (Nat.le_of_ble_eq_true rfl) tz_144 rfl rfl rfl dn_9_33 (fun H locs h hS => ?_)
  replace h : nWd g z (pre ++ [(h0, eO 9 [.ref q1, .ref q2, .ref q3, .ref q4, .null, .int 0, .int 0]), (q1, eA g 8 (fun _ => 0)), (q2, eA g 8 (fun _ => 0)), (q3, eA g 8 (fun _ => 0)), (q4, eA g 8 (fun _ => 0))]) H := nWd.st h
  refine lv_aload_n C0.1.1 C0.1.2.1 dn_9_36 rfl (lv_at hl 0 rfl) ?_
  refine lv_bipush (v := (nI 8)) C0.1.1 C0.1.2.1 dn_9_37 (by decide +kernel) ?_
  refine n_newa C0.1 h hS tz_125 (x := nI 8) (N := 8) (by decide) (by decide +kernel) (by decide) (Nat.le_of_ble_eq_true rfl) (Nat.le_of_ble_eq_true rfl) dn_9_39 (fun q5 H h hS => ?_)
  replace h : nWd g z (pre ++ [(h0, eO 9 [.ref q1, .ref q2, .ref q3, .ref q4, .null, .int 0, .int 0]), (q1, eA g 8 (fun _ => 0)), (q2, eA g 8 (fun _ => 0)), (q3, eA g 8 (fun _ => 0)), (q4, eA g 8 (fun _ => 0)), (q5, eA g 8 (fun _ => 0))]) H := nWd.asc h
  refine n_put C0.1 C0.2.2.2 h hS (pre.length + 0) (nx_at rfl) rfl qv_9_ok qu_9_ok qn_9_ok 4 (by decide) (Nat.le_of_ble_eq_true rfl) tz_146 rfl rfl rfl dn_9_41 (fun H locs h hS => ?_)
  replace h : nWd g z (pre ++ [(h0, eO 9 [.ref q1, .ref q2, .ref q3, .ref q4, .ref q5, .int 0, .int 0]), (q1, eA g 8 (fun _ => 0)), (q2, eA g 8 (fun _ => 0)), (q3, eA g 8 (fun _ => 0)), (q4, eA g 8 (fun _ => 0)), (q5, eA g 8 (fun _ => 0))]) H := nWd.st h
  refine lv_aload_n C0.1.1 C0.1.2.1 dn_9_44 rfl (lv_at hl 0 rfl) ?_
  refine lv_iconst (v := (Int32.ofInt (Int.negSucc 0))) C0.1.1 C0.1.2.1 dn_9_45 (by decide +kernel) ?_
  refine n_put C0.1 C0.2.2.2 h hS (pre.length + 0) (nx_at rfl) rfl qv_9_ok qu_9_ok qn_9_ok 6 (by decide) (Nat.le_of_ble_eq_true rfl) tz_154 rfl rfl rfl dn_9_46 (fun H locs h hS => ?_)
  replace h : nWd g z (pre ++ [(h0, eO 9 [.ref q1, .ref q2, .ref q3, .ref q4, .ref q5, .int 0, .int (Int32.ofInt (Int.negSucc 0))]), (q1, eA g 8 (fun _ => 0)), (q2, eA g 8 (fun _ => 0)), (q3, eA g 8 (fun _ => 0)), (q4, eA g 8 (fun _ => 0)), (q5, eA g 8 (fun _ => 0))]) H := nWd.st h
  exact n_ret C0 h hS ⟨q1, q2, q3, q4, q5, rfl⟩ dn_9_49
theorem n_X8 {l : Launch} {g : qw_Ad} {z : Nat} {pre : va_W} {h0 : Nat} {tr : Nat} : nMt l my_X8_init g z 2 32 7 8235 [.ref h0, .ref tr] (pre ++ [(h0, eO 8 nb_8)]) (fun ws1 => ∃ q1 : Nat, ∃ q2 : Nat, ∃ q3 : Nat, ∃ q4 : Nat, ∃ q5 : Nat, ∃ q6 : Nat, ∃ q7 : Nat, ∃ fR : Nat → Int32, nRY fR ∧ ws1 = pre ++ [(h0, eO 8 [.ref tr, .ref q1, .ref q2, .ref q3, .ref q4, .ref q5, .ref q6, .ref q7, .int 0]), (q1, eA g 8192 fR), (q2, eA g 8 (fun _ => 0)), (q3, eA g 8 (fun _ => 0)), (q4, eA g 8 (fun _ => 0)), (q5, eA g 8 (fun _ => 0)), (q6, eA g 8 (fun _ => 0)), (q7, eO 2 nb_2)]) := by
  refine nMt.of (by decide +kernel) rfl rfl ?_
  intro p e s m args below meth c C0 h lsA hl
  have hS : nSt z s s.heap [] := va_S.rf
  generalize hH : s.heap = H at h hS ⊢
  refine lv_aload_n C0.1.1 C0.1.2.1 dn_8_0 rfl (lv_at hl 0 rfl) ?_
  refine n_obj C0.1 tz_235 tz_101 tz_102 hl.1 (Nat.le_of_ble_eq_true rfl) (Nat.le_of_ble_eq_true rfl) dn_8_1 ?_
  refine lv_aload_n C0.1.1 C0.1.2.1 dn_8_4 rfl (lv_at hl 0 rfl) ?_
  refine lv_sipush (v := (nI 8192)) C0.1.1 C0.1.2.1 dn_8_5 (by decide +kernel) ?_
  refine n_newa C0.1 h hS tz_125 (x := nI 8192) (N := 8192) (by decide) (by decide +kernel) (by decide) (Nat.le_of_ble_eq_true rfl) (Nat.le_of_ble_eq_true rfl) dn_8_8 (fun q1 H h hS => ?_)
  replace h : nWd g z (pre ++ [(h0, eO 8 nb_8), (q1, eA g 8192 (fun _ => 0))]) H := nWd.asc h
  refine n_put C0.1 C0.2.2.2 h hS (pre.length + 0) (nx_at rfl) rfl qv_8_ok qu_8_ok qn_8_ok 1 (by decide) (Nat.le_of_ble_eq_true rfl) tz_242 rfl rfl rfl dn_8_10 (fun H locs h hS => ?_)
  replace h : nWd g z (pre ++ [(h0, eO 8 [.null, .ref q1, .null, .null, .null, .null, .null, .null, .int 0]), (q1, eA g 8192 (fun _ => 0))]) H := nWd.st h
  refine lv_aload_n C0.1.1 C0.1.2.1 dn_8_13 rfl (lv_at hl 0 rfl) ?_
  refine lv_bipush (v := (nI 8)) C0.1.1 C0.1.2.1 dn_8_14 (by decide +kernel) ?_
  refine n_newa C0.1 h hS tz_125 (x := nI 8) (N := 8) (by decide) (by decide +kernel) (by decide) (Nat.le_of_ble_eq_true rfl) (Nat.le_of_ble_eq_true rfl) dn_8_16 (fun q2 H h hS => ?_)
  replace h : nWd g z (pre ++ [(h0, eO 8 [.null, .ref q1, .null, .null, .null, .null, .null, .null, .int 0]), (q1, eA g 8192 (fun _ => 0)), (q2, eA g 8 (fun _ => 0))]) H := nWd.asc h
  refine n_put C0.1 C0.2.2.2 h hS (pre.length + 0) (nx_at rfl) rfl qv_8_ok qu_8_ok qn_8_ok 2 (by decide) (Nat.le_of_ble_eq_true rfl) tz_243 rfl rfl rfl dn_8_18 (fun H locs h hS => ?_)
  replace h : nWd g z (pre ++ [(h0, eO 8 [.null, .ref q1, .ref q2, .null, .null, .null, .null, .null, .int 0]), (q1, eA g 8192 (fun _ => 0)), (q2, eA g 8 (fun _ => 0))]) H := nWd.st h
  refine lv_aload_n C0.1.1 C0.1.2.1 dn_8_21 rfl (lv_at hl 0 rfl) ?_
  refine lv_bipush (v := (nI 8)) C0.1.1 C0.1.2.1 dn_8_22 (by decide +kernel) ?_
  refine n_newa C0.1 h hS tz_125 (x := nI 8) (N := 8) (by decide) (by decide +kernel) (by decide) (Nat.le_of_ble_eq_true rfl) (Nat.le_of_ble_eq_true rfl) dn_8_24 (fun q3 H h hS => ?_)
  replace h : nWd g z (pre ++ [(h0, eO 8 [.null, .ref q1, .ref q2, .null, .null, .null, .null, .null, .int 0]), (q1, eA g 8192 (fun _ => 0)), (q2, eA g 8 (fun _ => 0)), (q3, eA g 8 (fun _ => 0))]) H := nWd.asc h
  refine n_put C0.1 C0.2.2.2 h hS (pre.length + 0) (nx_at rfl) rfl qv_8_ok qu_8_ok qn_8_ok 3 (by decide) (Nat.le_of_ble_eq_true rfl) tz_244 rfl rfl rfl dn_8_26 (fun H locs h hS => ?_)
  replace h : nWd g z (pre ++ [(h0, eO 8 [.null, .ref q1, .ref q2, .ref q3, .null, .null, .null, .null, .int 0]), (q1, eA g 8192 (fun _ => 0)), (q2, eA g 8 (fun _ => 0)), (q3, eA g 8 (fun _ => 0))]) H := nWd.st h
  refine lv_aload_n C0.1.1 C0.1.2.1 dn_8_29 rfl (lv_at hl 0 rfl) ?_
  refine lv_bipush (v := (nI 8)) C0.1.1 C0.1.2.1 dn_8_30 (by decide +kernel) ?_
  refine n_newa C0.1 h hS tz_125 (x := nI 8) (N := 8) (by decide) (by decide +kernel) (by decide) (Nat.le_of_ble_eq_true rfl) (Nat.le_of_ble_eq_true rfl) dn_8_32 (fun q4 H h hS => ?_)
  replace h : nWd g z (pre ++ [(h0, eO 8 [.null, .ref q1, .ref q2, .ref q3, .null, .null, .null, .null, .int 0]), (q1, eA g 8192 (fun _ => 0)), (q2, eA g 8 (fun _ => 0)), (q3, eA g 8 (fun _ => 0)), (q4, eA g 8 (fun _ => 0))]) H := nWd.asc h
  refine n_put C0.1 C0.2.2.2 h hS (pre.length + 0) (nx_at rfl) rfl qv_8_ok qu_8_ok qn_8_ok 4 (by decide) (Nat.le_of_ble_eq_true rfl) tz_245 rfl rfl rfl dn_8_34 (fun H locs h hS => ?_)
  replace h : nWd g z (pre ++ [(h0, eO 8 [.null, .ref q1, .ref q2, .ref q3, .ref q4, .null, .null, .null, .int 0]), (q1, eA g 8192 (fun _ => 0)), (q2, eA g 8 (fun _ => 0)), (q3, eA g 8 (fun _ => 0)), (q4, eA g 8 (fun _ => 0))]) H := nWd.st h
  refine lv_aload_n C0.1.1 C0.1.2.1 dn_8_37 rfl (lv_at hl 0 rfl) ?_
  refine lv_bipush (v := (nI 8)) C0.1.1 C0.1.2.1 dn_8_38 (by decide +kernel) ?_
  refine n_newa C0.1 h hS tz_125 (x := nI 8) (N := 8) (by decide) (by decide +kernel) (by decide) (Nat.le_of_ble_eq_true rfl) (Nat.le_of_ble_eq_true rfl) dn_8_40 (fun q5 H h hS => ?_)
  replace h : nWd g z (pre ++ [(h0, eO 8 [.null, .ref q1, .ref q2, .ref q3, .ref q4, .null, .null, .null, .int 0]), (q1, eA g 8192 (fun _ => 0)), (q2, eA g 8 (fun _ => 0)), (q3, eA g 8 (fun _ => 0)), (q4, eA g 8 (fun _ => 0)), (q5, eA g 8 (fun _ => 0))]) H := nWd.asc h
  refine n_put C0.1 C0.2.2.2 h hS (pre.length + 0) (nx_at rfl) rfl qv_8_ok qu_8_ok qn_8_ok 5 (by decide) (Nat.le_of_ble_eq_true rfl) tz_246 rfl rfl rfl dn_8_42 (fun H locs h hS => ?_)
  replace h : nWd g z (pre ++ [(h0, eO 8 [.null, .ref q1, .ref q2, .ref q3, .ref q4, .ref q5, .null, .null, .int 0]), (q1, eA g 8192 (fun _ => 0)), (q2, eA g 8 (fun _ => 0)), (q3, eA g 8 (fun _ => 0)), (q4, eA g 8 (fun _ => 0)), (q5, eA g 8 (fun _ => 0))]) H := nWd.st h
  refine lv_aload_n C0.1.1 C0.1.2.1 dn_8_45 rfl (lv_at hl 0 rfl) ?_
  refine lv_bipush (v := (nI 8)) C0.1.1 C0.1.2.1 dn_8_46 (by decide +kernel) ?_
  refine n_newa C0.1 h hS tz_125 (x := nI 8) (N := 8) (by decide) (by decide +kernel) (by decide) (Nat.le_of_ble_eq_true rfl) (Nat.le_of_ble_eq_true rfl) dn_8_48 (fun q6 H h hS => ?_)
  replace h : nWd g z (pre ++ [(h0, eO 8 [.null, .ref q1, .ref q2, .ref q3, .ref q4, .ref q5, .null, .null, .int 0]), (q1, eA g 8192 (fun _ => 0)), (q2, eA g 8 (fun _ => 0)), (q3, eA g 8 (fun _ => 0)), (q4, eA g 8 (fun _ => 0)), (q5, eA g 8 (fun _ => 0)), (q6, eA g 8 (fun _ => 0))]) H := nWd.asc h
  refine n_put C0.1 C0.2.2.2 h hS (pre.length + 0) (nx_at rfl) rfl qv_8_ok qu_8_ok qn_8_ok 6 (by decide) (Nat.le_of_ble_eq_true rfl) tz_247 rfl rfl rfl dn_8_50 (fun H locs h hS => ?_)
  replace h : nWd g z (pre ++ [(h0, eO 8 [.null, .ref q1, .ref q2, .ref q3, .ref q4, .ref q5, .ref q6, .null, .int 0]), (q1, eA g 8192 (fun _ => 0)), (q2, eA g 8 (fun _ => 0)), (q3, eA g 8 (fun _ => 0)), (q4, eA g 8 (fun _ => 0)), (q5, eA g 8 (fun _ => 0)), (q6, eA g 8 (fun _ => 0))]) H := nWd.st h
  refine lv_aload_n C0.1.1 C0.1.2.1 dn_8_53 rfl (lv_at hl 0 rfl) ?_
  refine n_new C0.1 h hS (ci := 2) (T := qt_2) (N := 3) (fs := nb_2) rfl qv_2_ok qu_2_ok nb_2_ok tz_236 tz_198 tz_81 (Nat.le_of_ble_eq_true rfl) (Nat.le_of_ble_eq_true rfl) dn_8_54 (fun q7 H h hS => ?_)
  refine lv_dup C0.1.1 C0.1.2.1 dn_8_57 rfl ?_
  refine n_callN C0.1 h hS (Yc := my_X2_init) (rest := [.ref q7, .ref h0]) (n_X2) (List.mem_of_getElem? (i := 5) rfl) tz_200 tz_81 tz_201 rfl rfl ⟨by decide, by decide, (show (parseMethodDescriptor (qw_yn my_X2_init).desc).map (fun d => d.parameters.length) = some 0 by decide +kernel)⟩ ⟨(Nat.le_of_ble_eq_true rfl), (Nat.le_of_ble_eq_true rfl)⟩ ⟨(Nat.le_of_ble_eq_true rfl), (Nat.le_of_ble_eq_true rfl)⟩ hl.1 rfl (Nat.le_of_ble_eq_true rfl) dn_8_58 (fun ws1 H locs hres h hS => ?_)
  obtain ⟨rfl⟩ := hres
  replace h : nWd g z (pre ++ [(h0, eO 8 [.null, .ref q1, .ref q2, .ref q3, .ref q4, .ref q5, .ref q6, .null, .int 0]), (q1, eA g 8192 (fun _ => 0)), (q2, eA g 8 (fun _ => 0)), (q3, eA g 8 (fun _ => 0)), (q4, eA g 8 (fun _ => 0)), (q5, eA g 8 (fun _ => 0)), (q6, eA g 8 (fun _ => 0)), (q7, eO 2 nb_2)]) H := nWd.asc h
  refine n_put C0.1 C0.2.2.2 h hS (pre.length + 0) (nx_at rfl) rfl qv_8_ok qu_8_ok qn_8_ok 7 (by decide) (Nat.le_of_ble_eq_true rfl) tz_248 rfl rfl rfl dn_8_61 (fun H locs h hS => ?_)
  replace h : nWd g z (pre ++ [(h0, eO 8 [.null, .ref q1, .ref q2, .ref q3, .ref q4, .ref q5, .ref q6, .ref q7, .int 0]), (q1, eA g 8192 (fun _ => 0)), (q2, eA g 8 (fun _ => 0)), (q3, eA g 8 (fun _ => 0)), (q4, eA g 8 (fun _ => 0)), (q5, eA g 8 (fun _ => 0)), (q6, eA g 8 (fun _ => 0)), (q7, eO 2 nb_2)]) H := nWd.st h
  refine lv_aload_n C0.1.1 C0.1.2.1 dn_8_64 rfl (lv_at hl 0 rfl) ?_
  refine lv_aload_n C0.1.1 C0.1.2.1 dn_8_65 rfl (lv_at hl 1 rfl) ?_
  refine n_put C0.1 C0.2.2.2 h hS (pre.length + 0) (nx_at rfl) rfl qv_8_ok qu_8_ok qn_8_ok 0 (by decide) (Nat.le_of_ble_eq_true rfl) tz_241 rfl rfl rfl dn_8_66 (fun H locs h hS => ?_)
  replace h : nWd g z (pre ++ [(h0, eO 8 [.ref tr, .ref q1, .ref q2, .ref q3, .ref q4, .ref q5, .ref q6, .ref q7, .int 0]), (q1, eA g 8192 (fun _ => 0)), (q2, eA g 8 (fun _ => 0)), (q3, eA g 8 (fun _ => 0)), (q4, eA g 8 (fun _ => 0)), (q5, eA g 8 (fun _ => 0)), (q6, eA g 8 (fun _ => 0)), (q7, eO 2 nb_2)]) H := nWd.st h
  have h0y : nry (fun _ => 0) 0 1 0 := by
    intro L' d' p c' h1 h2 h3 h4 h5
    have e0 : bt (0 : Int32) c' = false := by simp [bt]
    have e1 : ¬ (L' < 0 ∨ L' = 0 ∧ (d' < 1 ∨ d' = 1 ∧ c' < 0)) := by omega
    rw [e0, decide_eq_false e1, Bool.and_false]
  refine (?_ : ∀ (hgoal : True), _) trivial; intro _
  generalize hQ : (fun ws1 => ∃ q1 : Nat, ∃ q2 : Nat, ∃ q3 : Nat, ∃ q4 : Nat, ∃ q5 : Nat, ∃ q6 : Nat, ∃ q7 : Nat, ∃ fR : Nat → Int32, nRY fR ∧ ws1 = pre ++ [(h0, eO 8 [.ref tr, .ref q1, .ref q2, .ref q3, .ref q4, .ref q5, .ref q6, .ref q7, .int 0]), (q1, eA g 8192 fR), (q2, eA g 8 (fun _ => 0)), (q3, eA g 8 (fun _ => 0)), (q4, eA g 8 (fun _ => 0)), (q5, eA g 8 (fun _ => 0)), (q6, eA g 8 (fun _ => 0)), (q7, eO 2 nb_2)]) = Q
  have inner : ∀ (n c1 L d : Nat) (f : Nat → Int32) (lsA : Array Slot) (H : Heap) (locs : List Loc), c1 + n = 32 → L < 32 → 1 ≤ d → d ≤ 8 → nry f L d c1 →
      nWd g z (pre ++ [(h0, eO 8 [.ref tr, .ref q1, .ref q2, .ref q3, .ref q4, .ref q5, .ref q6, .ref q7, .int 0]), (q1, eA g 8192 f), (q2, eA g 8 (fun _ => 0)), (q3, eA g 8 (fun _ => 0)), (q4, eA g 8 (fun _ => 0)), (q5, eA g 8 (fun _ => 0)), (q6, eA g 8 (fun _ => 0)), (q7, eO 2 nb_2)]) H → nSt z s H locs → lv_has lsA 6 [(4, .int (nI c1)), (3, .int (nI d)), (2, .int (nI L)), (0, .ref h0), (1, .ref tr)] →
      (∀ (f : Nat → Int32) (lsA : Array Slot) (H : Heap) (locs : List Loc), nry f L d 32 → nWd g z (pre ++ [(h0, eO 8 [.ref tr, .ref q1, .ref q2, .ref q3, .ref q4, .ref q5, .ref q6, .ref q7, .int 0]), (q1, eA g 8192 f), (q2, eA g 8 (fun _ => 0)), (q3, eA g 8 (fun _ => 0)), (q4, eA g 8 (fun _ => 0)), (q5, eA g 8 (fun _ => 0)), (q6, eA g 8 (fun _ => 0)), (q7, eO 2 nb_2)]) H → nSt z s H locs → lv_has lsA 6 [(3, .int (nI d)), (2, .int (nI L)), (0, .ref h0), (1, .ref tr)] → W p l e ({ frames := 2, cells := 7, slots := 8235, locals := 32 } : Room) s m args below meth c H locs 7 8235 (nEnd g z 7 8235 Q below args s) (F0 m 153 lsA [])) →
      W p l e ({ frames := 2, cells := 7, slots := 8235, locals := 32 } : Room) s m args below meth c H locs 7 8235 (nEnd g z 7 8235 Q below args s) (F0 m 88 lsA []) := by
    intro n
    induction n with
    | zero =>
      intro c1 L d f lsA H locs hc hL hd hd8 hy h hS hl kk
      refine lv_iload C0.1.1 C0.1.2.1 dn_8_88 (lv_at hl 0 rfl) ?_
      refine lv_bipush (v := (nI 32)) C0.1.1 C0.1.2.1 dn_8_90 (by decide +kernel) ?_
      refine lv_icmp_ge C0.1.1 C0.1.2.1 dn_8_92 rfl (fun _ => ?_) (fun hn => absurd (nle 32 c1 (by omega) (by omega)) hn)
      obtain rfl : c1 = 32 := by omega
      exact kk f lsA H locs hy h hS (lv_sub hl [1, 2, 3, 4] rfl)
    | succ n ih =>
      intro c1 L d f lsA H locs hc hL hd hd8 hy h hS hl kk
      have hr := ray_lt hL hd8 (c := c1) (by omega) (d := d)
      have hi := ridx_lt hL hd hd8 hr
      refine lv_iload C0.1.1 C0.1.2.1 dn_8_88 (lv_at hl 0 rfl) ?_
      refine lv_bipush (v := (nI 32)) C0.1.1 C0.1.2.1 dn_8_90 (by decide +kernel) ?_
      refine lv_icmp_ge C0.1.1 C0.1.2.1 dn_8_92 rfl (fun hn => absurd hn (nnle 32 c1 (by omega) (by omega))) (fun _ => ?_)
      refine lv_iload_n C0.1.1 C0.1.2.1 dn_8_95 rfl (lv_at hl 2 rfl) ?_
      refine lv_iload_n C0.1.1 C0.1.2.1 dn_8_96 rfl (lv_at hl 1 rfl) ?_
      refine lv_bipush (v := (nI 8)) C0.1.1 C0.1.2.1 dn_8_97 (by decide +kernel) ?_
      refine lv_iload_n C0.1.1 C0.1.2.1 dn_8_99 rfl (lv_at hl 2 rfl) ?_
      refine lv_imul C0.1.1 C0.1.2.1 dn_8_100 ?_
      refine lv_iconst (v := (nI 4)) C0.1.1 C0.1.2.1 dn_8_101 (by decide +kernel) ?_
      refine lv_iadd C0.1.1 C0.1.2.1 dn_8_102 ?_
      refine lv_iload_n C0.1.1 C0.1.2.1 dn_8_103 rfl (lv_at hl 1 rfl) ?_
      refine lv_iload C0.1.1 C0.1.2.1 dn_8_104 (lv_at hl 0 rfl) ?_
      refine lv_iload_n C0.1.1 C0.1.2.1 dn_8_106 rfl (lv_at hl 2 rfl) ?_
      refine lv_isub C0.1.1 C0.1.2.1 dn_8_107 ?_
      refine lv_imul C0.1.1 C0.1.2.1 dn_8_108 ?_
      refine lv_iadd C0.1.1 C0.1.2.1 dn_8_109 ?_
      refine lv_bipush (v := (nI 8)) C0.1.1 C0.1.2.1 dn_8_110 (by decide +kernel) ?_
      refine lv_idiv C0.1.1 C0.1.2.1 dn_8_112 (by decide) ?_
      rw [ray_I hL hd hd8 (by omega)]
      refine n_statE C0.1 h hS (rest := []) (mE_rayTo hd) (fun _ => rfl) tz_238 tz_239 tz_82 tz_240 ⟨by decide, by decide, (show (parseMethodDescriptor (qw_yn my_X8_rayTo).desc).map (fun d => d.parameters.length) = some 3 by decide +kernel)⟩ ⟨(Nat.le_of_ble_eq_true rfl), (Nat.le_of_ble_eq_true rfl)⟩ ⟨(Nat.le_of_ble_eq_true rfl), (Nat.le_of_ble_eq_true rfl)⟩ hl.1 rfl (Nat.le_of_ble_eq_true rfl) dn_8_113 (fun H locs h hS => ?_)
      refine lv_istore C0.1.1 C0.1.2.1 dn_8_116 hl (by decide) rfl (fun lsA hl => ?_)
      refine lv_iload C0.1.1 C0.1.2.1 dn_8_118 (lv_at hl 0 rfl) ?_
      refine lv_if_lt C0.1.1 C0.1.2.1 dn_8_120 rfl (fun hn => absurd hn (nnlt _ 0 (by omega) (by omega))) (fun _ => ?_)
      refine lv_iload C0.1.1 C0.1.2.1 dn_8_123 (lv_at hl 0 rfl) ?_
      refine lv_aload_n C0.1.1 C0.1.2.1 dn_8_125 rfl (lv_at hl 4 rfl) ?_
      refine n_get (ci := 8) (fs := [.ref tr,.ref q1,.ref q2,.ref q3,.ref q4,.ref q5,.ref q6,.ref q7,.int 0]) C0.1 h (pre.length + 0) (nx_at rfl) rfl qv_8_ok 1 (by decide) tz_242 rfl dn_8_126 ?_
      refine va_alen (v := nI 8192) C0.1.1 C0.1.2.1 C0.1.2.2.2.2.2.1.1 h.1 (pre.length + 1) 0 (nx_at rfl) (ty := .int) rfl rfl dn_8_129 ?_
      refine lv_icmp_ge C0.1.1 C0.1.2.1 dn_8_130 rfl (fun hn => absurd hn (nnle 8192 _ hi (by omega))) (fun _ => ?_)
      refine lv_aload_n C0.1.1 C0.1.2.1 dn_8_133 rfl (lv_at hl 4 rfl) ?_
      refine n_get (ci := 8) (fs := [.ref tr,.ref q1,.ref q2,.ref q3,.ref q4,.ref q5,.ref q6,.ref q7,.int 0]) C0.1 h (pre.length + 0) (nx_at rfl) rfl qv_8_ok 1 (by decide) tz_242 rfl dn_8_134 ?_
      refine lv_iload C0.1.1 C0.1.2.1 dn_8_137 (lv_at hl 0 rfl) ?_
      refine lv_dup2_11 C0.1.1 C0.1.2.1 dn_8_139 rfl rfl ?_
      refine va_iald C0.1.1 C0.1.2.1 C0.1.2.2.2.2.2.1.1 h.1 (pre.length + 1) 0 (nx_at rfl) rfl (nin _ 8192 hi (by omega)) dn_8_140 ?_
      refine lv_iconst (v := (nI 1)) C0.1.1 C0.1.2.1 dn_8_141 (by decide +kernel) ?_
      refine lv_iload C0.1.1 C0.1.2.1 dn_8_142 (lv_at hl 1 rfl) ?_
      refine lv_ishl C0.1.1 C0.1.2.1 dn_8_144 ?_
      refine lv_ior C0.1.1 C0.1.2.1 dn_8_145 ?_
      refine va_iast C0.1.1 C0.1.2.1 C0.1.2.2.2.2.2.1.1 h.1 h.2 hS (pre.length + 1) 0 (nx_at rfl) rfl (nin _ 8192 hi (by omega)) dn_8_146 (fun H locs h1 h2 hS => ?_)
      have h := And.intro h1 h2
      rw [nI_clamp (by omega)] at h
      replace h : nWd g z (pre ++ [(h0, eO 8 [.ref tr, .ref q1, .ref q2, .ref q3, .ref q4, .ref q5, .ref q6, .ref q7, .int 0]), (q1, eA g 8192 (upd f (ridx L d (ray L d c1)) (f (ridx L d (ray L d c1)) ||| (nI 1 <<< (nI c1 &&& 31))))), (q2, eA g 8 (fun _ => 0)), (q3, eA g 8 (fun _ => 0)), (q4, eA g 8 (fun _ => 0)), (q5, eA g 8 (fun _ => 0)), (q6, eA g 8 (fun _ => 0)), (q7, eO 2 nb_2)]) H := nWd.st h
      refine lv_iinc (v := nI (c1 + 1)) C0.1.1 C0.1.2.1 dn_8_147 hl (k := 1) rfl (nI_add c1 1) (by decide) rfl (fun lsA hl => ?_)
      refine lv_goto C0.1.1 C0.1.2.1 dn_8_150 rfl ?_
      exact ih (c1 + 1) L d _ lsA H locs (by omega) hL hd hd8 (hy.step hL hd hd8 (by omega)) h hS (lv_sub hl [0, 2, 3, 4, 5] rfl) kk
  have middle : ∀ (n d L : Nat) (f : Nat → Int32) (lsA : Array Slot) (H : Heap) (locs : List Loc), d + n = 9 → L < 32 → 1 ≤ d → nry f L d 0 →
      nWd g z (pre ++ [(h0, eO 8 [.ref tr, .ref q1, .ref q2, .ref q3, .ref q4, .ref q5, .ref q6, .ref q7, .int 0]), (q1, eA g 8192 f), (q2, eA g 8 (fun _ => 0)), (q3, eA g 8 (fun _ => 0)), (q4, eA g 8 (fun _ => 0)), (q5, eA g 8 (fun _ => 0)), (q6, eA g 8 (fun _ => 0)), (q7, eO 2 nb_2)]) H → nSt z s H locs → lv_has lsA 6 [(3, .int (nI d)), (2, .int (nI L)), (0, .ref h0), (1, .ref tr)] →
      (∀ (f : Nat → Int32) (lsA : Array Slot) (H : Heap) (locs : List Loc), nry f L 9 0 → nWd g z (pre ++ [(h0, eO 8 [.ref tr, .ref q1, .ref q2, .ref q3, .ref q4, .ref q5, .ref q6, .ref q7, .int 0]), (q1, eA g 8192 f), (q2, eA g 8 (fun _ => 0)), (q3, eA g 8 (fun _ => 0)), (q4, eA g 8 (fun _ => 0)), (q5, eA g 8 (fun _ => 0)), (q6, eA g 8 (fun _ => 0)), (q7, eO 2 nb_2)]) H → nSt z s H locs → lv_has lsA 6 [(2, .int (nI L)), (0, .ref h0), (1, .ref tr)] → W p l e ({ frames := 2, cells := 7, slots := 8235, locals := 32 } : Room) s m args below meth c H locs 7 8235 (nEnd g z 7 8235 Q below args s) (F0 m 159 lsA [])) →
      W p l e ({ frames := 2, cells := 7, slots := 8235, locals := 32 } : Room) s m args below meth c H locs 7 8235 (nEnd g z 7 8235 Q below args s) (F0 m 79 lsA []) := by
    intro n
    induction n with
    | zero =>
      intro d L f lsA H locs hdn hL hd hy h hS hl kk
      refine lv_iload_n C0.1.1 C0.1.2.1 dn_8_79 rfl (lv_at hl 0 rfl) ?_
      refine lv_bipush (v := (nI 8)) C0.1.1 C0.1.2.1 dn_8_80 (by decide +kernel) ?_
      refine lv_icmp_gt C0.1.1 C0.1.2.1 dn_8_82 rfl (fun _ => ?_) (fun hn => absurd (nlt 8 d (by omega) (by omega)) hn)
      obtain rfl : d = 9 := by omega
      exact kk f lsA H locs hy h hS (lv_sub hl [1, 2, 3] rfl)
    | succ n ih =>
      intro d L f lsA H locs hdn hL hd hy h hS hl kk
      refine lv_iload_n C0.1.1 C0.1.2.1 dn_8_79 rfl (lv_at hl 0 rfl) ?_
      refine lv_bipush (v := (nI 8)) C0.1.1 C0.1.2.1 dn_8_80 (by decide +kernel) ?_
      refine lv_icmp_gt C0.1.1 C0.1.2.1 dn_8_82 rfl (fun hn => absurd hn (nnlt 8 d (by omega) (by omega))) (fun _ => ?_)
      refine lv_iconst (v := (nI 0)) C0.1.1 C0.1.2.1 dn_8_85 (by decide +kernel) ?_
      refine lv_istore C0.1.1 C0.1.2.1 dn_8_86 hl (by decide) rfl (fun lsA hl => ?_)
      refine inner 32 0 L d f lsA H locs rfl hL hd (by omega) hy h hS hl (fun f lsA H locs hy h hS hl => ?_)
      refine lv_iinc (v := nI (d + 1)) C0.1.1 C0.1.2.1 dn_8_153 hl (k := 0) rfl (nI_add d 1) (by decide) rfl (fun lsA hl => ?_)
      refine lv_goto C0.1.1 C0.1.2.1 dn_8_156 rfl ?_
      exact ih (d + 1) L f lsA H locs (by omega) hL (by omega) (hy.eq (fun a b c2 _ _ _ _ => by omega)) h hS hl kk
  have outer : ∀ (n L : Nat) (f : Nat → Int32) (lsA : Array Slot) (H : Heap) (locs : List Loc), L + n = 32 → nry f L 1 0 →
      nWd g z (pre ++ [(h0, eO 8 [.ref tr, .ref q1, .ref q2, .ref q3, .ref q4, .ref q5, .ref q6, .ref q7, .int 0]), (q1, eA g 8192 f), (q2, eA g 8 (fun _ => 0)), (q3, eA g 8 (fun _ => 0)), (q4, eA g 8 (fun _ => 0)), (q5, eA g 8 (fun _ => 0)), (q6, eA g 8 (fun _ => 0)), (q7, eO 2 nb_2)]) H → nSt z s H locs → lv_has lsA 6 [(2, .int (nI L)), (0, .ref h0), (1, .ref tr)] →
      W p l e ({ frames := 2, cells := 7, slots := 8235, locals := 32 } : Room) s m args below meth c H locs 7 8235 (nEnd g z 7 8235 Q below args s) (F0 m 71 lsA []) := by
    intro n
    induction n with
    | zero =>
      intro L f lsA H locs hLn hy h hS hl
      refine lv_iload_n C0.1.1 C0.1.2.1 dn_8_71 rfl (lv_at hl 0 rfl) ?_
      refine lv_bipush (v := (nI 32)) C0.1.1 C0.1.2.1 dn_8_72 (by decide +kernel) ?_
      refine lv_icmp_ge C0.1.1 C0.1.2.1 dn_8_74 rfl (fun _ => ?_) (fun hn => absurd (nle 32 L (by omega) (by omega)) hn)
      obtain rfl : L = 32 := by omega
      subst hQ
      refine n_ret C0 h hS ⟨q1, q2, q3, q4, q5, q6, q7, f, fun L d p c2 h1 h2 h3 h4 h5 => ?_, rfl⟩ dn_8_165
      rw [hy L d p c2 h1 h2 h3 h4 h5, decide_eq_true (p := L < 32 ∨ L = 32 ∧ (d < 1 ∨ d = 1 ∧ c2 < 0)) (Or.inl h1), Bool.and_true]
    | succ n ih =>
      intro L f lsA H locs hLn hy h hS hl
      refine lv_iload_n C0.1.1 C0.1.2.1 dn_8_71 rfl (lv_at hl 0 rfl) ?_
      refine lv_bipush (v := (nI 32)) C0.1.1 C0.1.2.1 dn_8_72 (by decide +kernel) ?_
      refine lv_icmp_ge C0.1.1 C0.1.2.1 dn_8_74 rfl (fun hn => absurd hn (nnle 32 L (by omega) (by omega))) (fun _ => ?_)
      refine lv_iconst (v := (nI 1)) C0.1.1 C0.1.2.1 dn_8_77 (by decide +kernel) ?_
      refine lv_istore_n C0.1.1 C0.1.2.1 dn_8_78 rfl hl (by decide) rfl (fun lsA hl => ?_)
      refine middle 8 1 L f lsA H locs rfl (by omega) (by omega) hy h hS hl (fun f lsA H locs hy h hS hl => ?_)
      refine lv_iinc (v := nI (L + 1)) C0.1.1 C0.1.2.1 dn_8_159 hl (k := 0) rfl (nI_add L 1) (by decide) rfl (fun lsA hl => ?_)
      refine lv_goto C0.1.1 C0.1.2.1 dn_8_162 rfl ?_
      exact ih (L + 1) f lsA H locs (by omega) (hy.eq (fun a b c2 _ _ _ _ => by omega)) h hS hl
  refine lv_iconst (v := (nI 0)) C0.1.1 C0.1.2.1 dn_8_69 (by decide +kernel) ?_
  refine lv_istore_n C0.1.1 C0.1.2.1 dn_8_70 rfl hl (by decide) rfl (fun lsA hl => ?_)
  exact outer 32 0 (fun _ => 0) lsA _ _ rfl h0y h hS hl
theorem n_X7 {l : Launch} {g : qw_Ad} {z : Nat} {pre : va_W} {h0 : Nat} : nMt l my_X7_init g z 3 57 21 8351 [.ref h0] (pre ++ [(h0, eO 7 nb_7)]) (fun ws1 => ∃ q1 : Nat, ∃ q2 : Nat, ∃ q3 : Nat, ∃ q4 : Nat, ∃ q5 : Nat, ∃ q6 : Nat, ∃ q7 : Nat, ∃ q8 : Nat, ∃ q9 : Nat, ∃ q10 : Nat, ∃ q11 : Nat, ∃ q12 : Nat, ∃ q13 : Nat, ∃ q14 : Nat, ∃ q15 : Nat, ∃ q16 : Nat, ∃ q17 : Nat, ∃ q18 : Nat, ∃ q19 : Nat, ∃ q20 : Nat, ∃ q21 : Nat, ∃ fR : Nat → Int32, nRY fR ∧ ws1 = pre ++ [(h0, eO 7 [.ref q1, .ref q7, .ref q10, .ref q12, .ref q14, .int (nI 16)]), (q1, eO 9 [.ref q2, .ref q3, .ref q4, .ref q5, .ref q6, .int 0, .int (Int32.ofInt (Int.negSucc 0))]), (q2, eA g 8 (fun _ => 0)), (q3, eA g 8 (fun _ => 0)), (q4, eA g 8 (fun _ => 0)), (q5, eA g 8 (fun _ => 0)), (q6, eA g 8 (fun _ => 0)), (q7, eO 1 [.ref q8, .ref q9, .int 0, .int (Int32.ofInt (Int.negSucc 0))]), (q8, eA g 20 (fun _ => 0)), (q9, eA g 20 (fun _ => 0)), (q10, eO 3 [.ref q11, .int 0, .int (Int32.ofInt (Int.negSucc 0))]), (q11, eO 2 nb_2), (q12, eO 5 [.ref q13, .int 0]), (q13, eA g 8 (fun _ => 0)), (q14, eO 8 [.ref q1, .ref q15, .ref q16, .ref q17, .ref q18, .ref q19, .ref q20, .ref q21, .int 0]), (q15, eA g 8192 fR), (q16, eA g 8 (fun _ => 0)), (q17, eA g 8 (fun _ => 0)), (q18, eA g 8 (fun _ => 0)), (q19, eA g 8 (fun _ => 0)), (q20, eA g 8 (fun _ => 0)), (q21, eO 2 nb_2)]) := by
  refine nMt.of (by decide +kernel) rfl rfl ?_
  intro p e s m args below meth c C0 h lsA hl
  have hS : nSt z s s.heap [] := va_S.rf
  generalize hH : s.heap = H at h hS ⊢
  refine lv_aload_n C0.1.1 C0.1.2.1 dn_7_0 rfl (lv_at hl 0 rfl) ?_
  refine n_obj C0.1 tz_131 tz_101 tz_102 hl.1 (Nat.le_of_ble_eq_true rfl) (Nat.le_of_ble_eq_true rfl) dn_7_1 ?_
  refine lv_aload_n C0.1.1 C0.1.2.1 dn_7_4 rfl (lv_at hl 0 rfl) ?_
  refine n_new C0.1 h hS (ci := 9) (T := qt_9) (N := 7) (fs := nb_9) rfl qv_9_ok qu_9_ok nb_9_ok tz_132 tz_133 tz_78 (Nat.le_of_ble_eq_true rfl) (Nat.le_of_ble_eq_true rfl) dn_7_5 (fun q1 H h hS => ?_)
  refine lv_dup C0.1.1 C0.1.2.1 dn_7_8 rfl ?_
  refine n_callN C0.1 h hS (Yc := my_X9_init) (rest := [.ref q1, .ref h0]) (n_X9) (List.mem_of_getElem? (i := 1) rfl) tz_135 tz_78 tz_136 rfl rfl ⟨by decide, by decide, (show (parseMethodDescriptor (qw_yn my_X9_init).desc).map (fun d => d.parameters.length) = some 0 by decide +kernel)⟩ ⟨(Nat.le_of_ble_eq_true rfl), (Nat.le_of_ble_eq_true rfl)⟩ ⟨(Nat.le_of_ble_eq_true rfl), (Nat.le_of_ble_eq_true rfl)⟩ hl.1 rfl (Nat.le_of_ble_eq_true rfl) dn_7_9 (fun ws1 H locs hres h hS => ?_)
  obtain ⟨q2, q3, q4, q5, q6, rfl⟩ := hres
  replace h : nWd g z (pre ++ [(h0, eO 7 nb_7), (q1, eO 9 [.ref q2, .ref q3, .ref q4, .ref q5, .ref q6, .int 0, .int (Int32.ofInt (Int.negSucc 0))]), (q2, eA g 8 (fun _ => 0)), (q3, eA g 8 (fun _ => 0)), (q4, eA g 8 (fun _ => 0)), (q5, eA g 8 (fun _ => 0)), (q6, eA g 8 (fun _ => 0))]) H := nWd.asc h
  refine n_put C0.1 C0.2.2.2 h hS (pre.length + 0) (nx_at rfl) rfl qv_7_ok qu_7_ok qn_7_ok 0 (by decide) (Nat.le_of_ble_eq_true rfl) tz_275 rfl rfl rfl dn_7_12 (fun H locs h hS => ?_)
  replace h : nWd g z (pre ++ [(h0, eO 7 [.ref q1, .null, .null, .null, .null, .int 0]), (q1, eO 9 [.ref q2, .ref q3, .ref q4, .ref q5, .ref q6, .int 0, .int (Int32.ofInt (Int.negSucc 0))]), (q2, eA g 8 (fun _ => 0)), (q3, eA g 8 (fun _ => 0)), (q4, eA g 8 (fun _ => 0)), (q5, eA g 8 (fun _ => 0)), (q6, eA g 8 (fun _ => 0))]) H := nWd.st h
  refine lv_aload_n C0.1.1 C0.1.2.1 dn_7_15 rfl (lv_at hl 0 rfl) ?_
  refine n_new C0.1 h hS (ci := 1) (T := qt_1) (N := 4) (fs := nb_1) rfl qv_1_ok qu_1_ok nb_1_ok tz_171 tz_172 tz_79 (Nat.le_of_ble_eq_true rfl) (Nat.le_of_ble_eq_true rfl) dn_7_16 (fun q7 H h hS => ?_)
  refine lv_dup C0.1.1 C0.1.2.1 dn_7_19 rfl ?_
  refine n_callN C0.1 h hS (Yc := my_X1_init) (rest := [.ref q7, .ref h0]) (n_X1) (List.mem_of_getElem? (i := 2) rfl) tz_174 tz_79 tz_175 rfl rfl ⟨by decide, by decide, (show (parseMethodDescriptor (qw_yn my_X1_init).desc).map (fun d => d.parameters.length) = some 0 by decide +kernel)⟩ ⟨(Nat.le_of_ble_eq_true rfl), (Nat.le_of_ble_eq_true rfl)⟩ ⟨(Nat.le_of_ble_eq_true rfl), (Nat.le_of_ble_eq_true rfl)⟩ hl.1 rfl (Nat.le_of_ble_eq_true rfl) dn_7_20 (fun ws1 H locs hres h hS => ?_)
  obtain ⟨q8, q9, rfl⟩ := hres
  replace h : nWd g z (pre ++ [(h0, eO 7 [.ref q1, .null, .null, .null, .null, .int 0]), (q1, eO 9 [.ref q2, .ref q3, .ref q4, .ref q5, .ref q6, .int 0, .int (Int32.ofInt (Int.negSucc 0))]), (q2, eA g 8 (fun _ => 0)), (q3, eA g 8 (fun _ => 0)), (q4, eA g 8 (fun _ => 0)), (q5, eA g 8 (fun _ => 0)), (q6, eA g 8 (fun _ => 0)), (q7, eO 1 [.ref q8, .ref q9, .int 0, .int (Int32.ofInt (Int.negSucc 0))]), (q8, eA g 20 (fun _ => 0)), (q9, eA g 20 (fun _ => 0))]) H := nWd.asc h
  refine n_put C0.1 C0.2.2.2 h hS (pre.length + 0) (nx_at rfl) rfl qv_7_ok qu_7_ok qn_7_ok 1 (by decide) (Nat.le_of_ble_eq_true rfl) tz_279 rfl rfl rfl dn_7_23 (fun H locs h hS => ?_)
  replace h : nWd g z (pre ++ [(h0, eO 7 [.ref q1, .ref q7, .null, .null, .null, .int 0]), (q1, eO 9 [.ref q2, .ref q3, .ref q4, .ref q5, .ref q6, .int 0, .int (Int32.ofInt (Int.negSucc 0))]), (q2, eA g 8 (fun _ => 0)), (q3, eA g 8 (fun _ => 0)), (q4, eA g 8 (fun _ => 0)), (q5, eA g 8 (fun _ => 0)), (q6, eA g 8 (fun _ => 0)), (q7, eO 1 [.ref q8, .ref q9, .int 0, .int (Int32.ofInt (Int.negSucc 0))]), (q8, eA g 20 (fun _ => 0)), (q9, eA g 20 (fun _ => 0))]) H := nWd.st h
  refine lv_aload_n C0.1.1 C0.1.2.1 dn_7_26 rfl (lv_at hl 0 rfl) ?_
  refine n_new C0.1 h hS (ci := 3) (T := qt_3) (N := 3) (fs := nb_3) rfl qv_3_ok qu_3_ok nb_3_ok tz_191 tz_192 tz_80 (Nat.le_of_ble_eq_true rfl) (Nat.le_of_ble_eq_true rfl) dn_7_27 (fun q10 H h hS => ?_)
  refine lv_dup C0.1.1 C0.1.2.1 dn_7_30 rfl ?_
  refine n_callN C0.1 h hS (Yc := my_X3_init) (rest := [.ref q10, .ref h0]) (n_X3) (List.mem_of_getElem? (i := 3) rfl) tz_194 tz_80 tz_195 rfl rfl ⟨by decide, by decide, (show (parseMethodDescriptor (qw_yn my_X3_init).desc).map (fun d => d.parameters.length) = some 0 by decide +kernel)⟩ ⟨(Nat.le_of_ble_eq_true rfl), (Nat.le_of_ble_eq_true rfl)⟩ ⟨(Nat.le_of_ble_eq_true rfl), (Nat.le_of_ble_eq_true rfl)⟩ hl.1 rfl (Nat.le_of_ble_eq_true rfl) dn_7_31 (fun ws1 H locs hres h hS => ?_)
  obtain ⟨q11, rfl⟩ := hres
  replace h : nWd g z (pre ++ [(h0, eO 7 [.ref q1, .ref q7, .null, .null, .null, .int 0]), (q1, eO 9 [.ref q2, .ref q3, .ref q4, .ref q5, .ref q6, .int 0, .int (Int32.ofInt (Int.negSucc 0))]), (q2, eA g 8 (fun _ => 0)), (q3, eA g 8 (fun _ => 0)), (q4, eA g 8 (fun _ => 0)), (q5, eA g 8 (fun _ => 0)), (q6, eA g 8 (fun _ => 0)), (q7, eO 1 [.ref q8, .ref q9, .int 0, .int (Int32.ofInt (Int.negSucc 0))]), (q8, eA g 20 (fun _ => 0)), (q9, eA g 20 (fun _ => 0)), (q10, eO 3 [.ref q11, .int 0, .int (Int32.ofInt (Int.negSucc 0))]), (q11, eO 2 nb_2)]) H := nWd.asc h
  refine n_put C0.1 C0.2.2.2 h hS (pre.length + 0) (nx_at rfl) rfl qv_7_ok qu_7_ok qn_7_ok 2 (by decide) (Nat.le_of_ble_eq_true rfl) tz_283 rfl rfl rfl dn_7_34 (fun H locs h hS => ?_)
  replace h : nWd g z (pre ++ [(h0, eO 7 [.ref q1, .ref q7, .ref q10, .null, .null, .int 0]), (q1, eO 9 [.ref q2, .ref q3, .ref q4, .ref q5, .ref q6, .int 0, .int (Int32.ofInt (Int.negSucc 0))]), (q2, eA g 8 (fun _ => 0)), (q3, eA g 8 (fun _ => 0)), (q4, eA g 8 (fun _ => 0)), (q5, eA g 8 (fun _ => 0)), (q6, eA g 8 (fun _ => 0)), (q7, eO 1 [.ref q8, .ref q9, .int 0, .int (Int32.ofInt (Int.negSucc 0))]), (q8, eA g 20 (fun _ => 0)), (q9, eA g 20 (fun _ => 0)), (q10, eO 3 [.ref q11, .int 0, .int (Int32.ofInt (Int.negSucc 0))]), (q11, eO 2 nb_2)]) H := nWd.st h
  refine lv_aload_n C0.1.1 C0.1.2.1 dn_7_37 rfl (lv_at hl 0 rfl) ?_
  refine n_new C0.1 h hS (ci := 5) (T := qt_5) (N := 2) (fs := nb_5) rfl qv_5_ok qu_5_ok nb_5_ok tz_228 tz_104 tz_75 (Nat.le_of_ble_eq_true rfl) (Nat.le_of_ble_eq_true rfl) dn_7_38 (fun q12 H h hS => ?_)
  refine lv_dup C0.1.1 C0.1.2.1 dn_7_41 rfl ?_
  refine lv_bipush (v := (nI 8)) C0.1.1 C0.1.2.1 dn_7_42 (by decide +kernel) ?_
  refine n_call C0.1 h hS (Yc := my_X5_init) (rest := [.ref q12, .ref h0]) (n_X5 (x0 := nI 8) (n0 := 8) (by decide) (by decide +kernel) (by decide) (by decide +kernel)) tz_229 tz_106 tz_75 tz_107 rfl rfl ⟨by decide, by decide, (show (parseMethodDescriptor (qw_yn my_X5_init).desc).map (fun d => d.parameters.length) = some 1 by decide +kernel)⟩ ⟨(Nat.le_of_ble_eq_true rfl), (Nat.le_of_ble_eq_true rfl)⟩ ⟨(Nat.le_of_ble_eq_true rfl), (Nat.le_of_ble_eq_true rfl)⟩ hl.1 rfl (Nat.le_of_ble_eq_true rfl) dn_7_44 (fun ws1 H locs hres h hS => ?_)
  obtain ⟨q13, rfl⟩ := hres
  replace h : nWd g z (pre ++ [(h0, eO 7 [.ref q1, .ref q7, .ref q10, .null, .null, .int 0]), (q1, eO 9 [.ref q2, .ref q3, .ref q4, .ref q5, .ref q6, .int 0, .int (Int32.ofInt (Int.negSucc 0))]), (q2, eA g 8 (fun _ => 0)), (q3, eA g 8 (fun _ => 0)), (q4, eA g 8 (fun _ => 0)), (q5, eA g 8 (fun _ => 0)), (q6, eA g 8 (fun _ => 0)), (q7, eO 1 [.ref q8, .ref q9, .int 0, .int (Int32.ofInt (Int.negSucc 0))]), (q8, eA g 20 (fun _ => 0)), (q9, eA g 20 (fun _ => 0)), (q10, eO 3 [.ref q11, .int 0, .int (Int32.ofInt (Int.negSucc 0))]), (q11, eO 2 nb_2), (q12, eO 5 [.ref q13, .int 0]), (q13, eA g 8 (fun _ => 0))]) H := nWd.asc h
  refine n_put C0.1 C0.2.2.2 h hS (pre.length + 0) (nx_at rfl) rfl qv_7_ok qu_7_ok qn_7_ok 3 (by decide) (Nat.le_of_ble_eq_true rfl) tz_285 rfl rfl rfl dn_7_47 (fun H locs h hS => ?_)
  replace h : nWd g z (pre ++ [(h0, eO 7 [.ref q1, .ref q7, .ref q10, .ref q12, .null, .int 0]), (q1, eO 9 [.ref q2, .ref q3, .ref q4, .ref q5, .ref q6, .int 0, .int (Int32.ofInt (Int.negSucc 0))]), (q2, eA g 8 (fun _ => 0)), (q3, eA g 8 (fun _ => 0)), (q4, eA g 8 (fun _ => 0)), (q5, eA g 8 (fun _ => 0)), (q6, eA g 8 (fun _ => 0)), (q7, eO 1 [.ref q8, .ref q9, .int 0, .int (Int32.ofInt (Int.negSucc 0))]), (q8, eA g 20 (fun _ => 0)), (q9, eA g 20 (fun _ => 0)), (q10, eO 3 [.ref q11, .int 0, .int (Int32.ofInt (Int.negSucc 0))]), (q11, eO 2 nb_2), (q12, eO 5 [.ref q13, .int 0]), (q13, eA g 8 (fun _ => 0))]) H := nWd.st h
  refine lv_aload_n C0.1.1 C0.1.2.1 dn_7_50 rfl (lv_at hl 0 rfl) ?_
  refine n_new C0.1 h hS (ci := 8) (T := qt_8) (N := 9) (fs := nb_8) rfl qv_8_ok qu_8_ok nb_8_ok tz_230 tz_231 tz_82 (Nat.le_of_ble_eq_true rfl) (Nat.le_of_ble_eq_true rfl) dn_7_51 (fun q14 H h hS => ?_)
  refine lv_dup C0.1.1 C0.1.2.1 dn_7_54 rfl ?_
  refine lv_aload_n C0.1.1 C0.1.2.1 dn_7_55 rfl (lv_at hl 0 rfl) ?_
  refine n_get (ci := 7) (fs := [.ref q1,.ref q7,.ref q10,.ref q12,.null,.int 0]) C0.1 h (pre.length + 0) (nx_pre (nx_at rfl)) rfl qv_7_ok 0 (by decide) tz_275 rfl dn_7_56 ?_
  refine n_call C0.1 h hS (Yc := my_X8_init) (rest := [.ref q14, .ref h0]) (n_X8) tz_232 tz_233 tz_82 tz_234 rfl rfl ⟨by decide, by decide, (show (parseMethodDescriptor (qw_yn my_X8_init).desc).map (fun d => d.parameters.length) = some 1 by decide +kernel)⟩ ⟨(Nat.le_of_ble_eq_true rfl), (Nat.le_of_ble_eq_true rfl)⟩ ⟨(Nat.le_of_ble_eq_true rfl), (Nat.le_of_ble_eq_true rfl)⟩ hl.1 rfl (Nat.le_of_ble_eq_true rfl) dn_7_59 (fun ws1 H locs hres h hS => ?_)
  obtain ⟨q15, q16, q17, q18, q19, q20, q21, fR, hR, rfl⟩ := hres
  replace h : nWd g z (pre ++ [(h0, eO 7 [.ref q1, .ref q7, .ref q10, .ref q12, .null, .int 0]), (q1, eO 9 [.ref q2, .ref q3, .ref q4, .ref q5, .ref q6, .int 0, .int (Int32.ofInt (Int.negSucc 0))]), (q2, eA g 8 (fun _ => 0)), (q3, eA g 8 (fun _ => 0)), (q4, eA g 8 (fun _ => 0)), (q5, eA g 8 (fun _ => 0)), (q6, eA g 8 (fun _ => 0)), (q7, eO 1 [.ref q8, .ref q9, .int 0, .int (Int32.ofInt (Int.negSucc 0))]), (q8, eA g 20 (fun _ => 0)), (q9, eA g 20 (fun _ => 0)), (q10, eO 3 [.ref q11, .int 0, .int (Int32.ofInt (Int.negSucc 0))]), (q11, eO 2 nb_2), (q12, eO 5 [.ref q13, .int 0]), (q13, eA g 8 (fun _ => 0)), (q14, eO 8 [.ref q1, .ref q15, .ref q16, .ref q17, .ref q18, .ref q19, .ref q20, .ref q21, .int 0]), (q15, eA g 8192 fR), (q16, eA g 8 (fun _ => 0)), (q17, eA g 8 (fun _ => 0)), (q18, eA g 8 (fun _ => 0)), (q19, eA g 8 (fun _ => 0)), (q20, eA g 8 (fun _ => 0)), (q21, eO 2 nb_2)]) H := nWd.asc h
  refine n_put C0.1 C0.2.2.2 h hS (pre.length + 0) (nx_at rfl) rfl qv_7_ok qu_7_ok qn_7_ok 4 (by decide) (Nat.le_of_ble_eq_true rfl) tz_289 rfl rfl rfl dn_7_62 (fun H locs h hS => ?_)
  replace h : nWd g z (pre ++ [(h0, eO 7 [.ref q1, .ref q7, .ref q10, .ref q12, .ref q14, .int 0]), (q1, eO 9 [.ref q2, .ref q3, .ref q4, .ref q5, .ref q6, .int 0, .int (Int32.ofInt (Int.negSucc 0))]), (q2, eA g 8 (fun _ => 0)), (q3, eA g 8 (fun _ => 0)), (q4, eA g 8 (fun _ => 0)), (q5, eA g 8 (fun _ => 0)), (q6, eA g 8 (fun _ => 0)), (q7, eO 1 [.ref q8, .ref q9, .int 0, .int (Int32.ofInt (Int.negSucc 0))]), (q8, eA g 20 (fun _ => 0)), (q9, eA g 20 (fun _ => 0)), (q10, eO 3 [.ref q11, .int 0, .int (Int32.ofInt (Int.negSucc 0))]), (q11, eO 2 nb_2), (q12, eO 5 [.ref q13, .int 0]), (q13, eA g 8 (fun _ => 0)), (q14, eO 8 [.ref q1, .ref q15, .ref q16, .ref q17, .ref q18, .ref q19, .ref q20, .ref q21, .int 0]), (q15, eA g 8192 fR), (q16, eA g 8 (fun _ => 0)), (q17, eA g 8 (fun _ => 0)), (q18, eA g 8 (fun _ => 0)), (q19, eA g 8 (fun _ => 0)), (q20, eA g 8 (fun _ => 0)), (q21, eO 2 nb_2)]) H := nWd.st h
  refine lv_aload_n C0.1.1 C0.1.2.1 dn_7_65 rfl (lv_at hl 0 rfl) ?_
  refine lv_bipush (v := (nI 16)) C0.1.1 C0.1.2.1 dn_7_66 (by decide +kernel) ?_
  refine n_put C0.1 C0.2.2.2 h hS (pre.length + 0) (nx_at rfl) rfl qv_7_ok qu_7_ok qn_7_ok 5 (by decide) (Nat.le_of_ble_eq_true rfl) tz_292 rfl rfl rfl dn_7_68 (fun H locs h hS => ?_)
  replace h : nWd g z (pre ++ [(h0, eO 7 [.ref q1, .ref q7, .ref q10, .ref q12, .ref q14, .int (nI 16)]), (q1, eO 9 [.ref q2, .ref q3, .ref q4, .ref q5, .ref q6, .int 0, .int (Int32.ofInt (Int.negSucc 0))]), (q2, eA g 8 (fun _ => 0)), (q3, eA g 8 (fun _ => 0)), (q4, eA g 8 (fun _ => 0)), (q5, eA g 8 (fun _ => 0)), (q6, eA g 8 (fun _ => 0)), (q7, eO 1 [.ref q8, .ref q9, .int 0, .int (Int32.ofInt (Int.negSucc 0))]), (q8, eA g 20 (fun _ => 0)), (q9, eA g 20 (fun _ => 0)), (q10, eO 3 [.ref q11, .int 0, .int (Int32.ofInt (Int.negSucc 0))]), (q11, eO 2 nb_2), (q12, eO 5 [.ref q13, .int 0]), (q13, eA g 8 (fun _ => 0)), (q14, eO 8 [.ref q1, .ref q15, .ref q16, .ref q17, .ref q18, .ref q19, .ref q20, .ref q21, .int 0]), (q15, eA g 8192 fR), (q16, eA g 8 (fun _ => 0)), (q17, eA g 8 (fun _ => 0)), (q18, eA g 8 (fun _ => 0)), (q19, eA g 8 (fun _ => 0)), (q20, eA g 8 (fun _ => 0)), (q21, eO 2 nb_2)]) H := nWd.st h
  exact n_ret C0 h hS ⟨q1, q2, q3, q4, q5, q6, q7, q8, q9, q10, q11, q12, q13, q14, q15, q16, q17, q18, q19, q20, q21, fR, hR, rfl⟩ dn_7_71
theorem n_X4 {l : Launch} {g : qw_Ad} {z : Nat} {pre : va_W} {h0 : Nat} {sh sg i0 : Nat} {fs : List Value} (hsh : pre[i0]? = some (sh, eO 7 fs)) (hsg : fs[4]? = some (.ref sg)) : nMt l my_X4_init g z 2 32 4 47 [.ref h0, .ref sh] (pre ++ [(h0, eO 4 nb_4)]) (fun ws1 => ∃ q1 : Nat, ∃ q2 : Nat, ∃ q3 : Nat, ∃ q4 : Nat, ws1 = pre ++ [(h0, eO 4 [.ref sh, .ref sg, .ref q1, .ref q2, .ref q3, .ref q4]), (q1, eO 2 nb_2), (q2, eA g 9 (fun _ => 0)), (q3, eA g 32 (fun _ => 0)), (q4, eA g 3 (fun _ => 0))]) := by
  refine nMt.of (by decide +kernel) rfl rfl ?_
  intro p e s m args below meth c C0 h lsA hl
  have hS : nSt z s s.heap [] := va_S.rf
  generalize hH : s.heap = H at h hS ⊢
  refine lv_aload_n C0.1.1 C0.1.2.1 dn_4_0 rfl (lv_at hl 0 rfl) ?_
  refine n_obj C0.1 tz_312 tz_101 tz_102 hl.1 (Nat.le_of_ble_eq_true rfl) (Nat.le_of_ble_eq_true rfl) dn_4_1 ?_
  refine lv_aload_n C0.1.1 C0.1.2.1 dn_4_4 rfl (lv_at hl 0 rfl) ?_
  refine n_new C0.1 h hS (ci := 2) (T := qt_2) (N := 3) (fs := nb_2) rfl qv_2_ok qu_2_ok nb_2_ok tz_313 tz_198 tz_81 (Nat.le_of_ble_eq_true rfl) (Nat.le_of_ble_eq_true rfl) dn_4_5 (fun q1 H h hS => ?_)
  refine lv_dup C0.1.1 C0.1.2.1 dn_4_8 rfl ?_
  refine n_callN C0.1 h hS (Yc := my_X2_init) (rest := [.ref q1, .ref h0]) (n_X2) (List.mem_of_getElem? (i := 6) rfl) tz_200 tz_81 tz_201 rfl rfl ⟨by decide, by decide, (show (parseMethodDescriptor (qw_yn my_X2_init).desc).map (fun d => d.parameters.length) = some 0 by decide +kernel)⟩ ⟨(Nat.le_of_ble_eq_true rfl), (Nat.le_of_ble_eq_true rfl)⟩ ⟨(Nat.le_of_ble_eq_true rfl), (Nat.le_of_ble_eq_true rfl)⟩ hl.1 rfl (Nat.le_of_ble_eq_true rfl) dn_4_9 (fun ws1 H locs hres h hS => ?_)
  obtain ⟨rfl⟩ := hres
  replace h : nWd g z (pre ++ [(h0, eO 4 nb_4), (q1, eO 2 nb_2)]) H := nWd.asc h
  refine n_put C0.1 C0.2.2.2 h hS (pre.length + 0) (nx_at rfl) rfl qv_4_ok qu_4_ok qn_4_ok 2 (by decide) (Nat.le_of_ble_eq_true rfl) tz_317 rfl rfl rfl dn_4_12 (fun H locs h hS => ?_)
  replace h : nWd g z (pre ++ [(h0, eO 4 [.null, .null, .ref q1, .null, .null, .null]), (q1, eO 2 nb_2)]) H := nWd.st h
  refine lv_aload_n C0.1.1 C0.1.2.1 dn_4_15 rfl (lv_at hl 0 rfl) ?_
  refine lv_bipush (v := (nI 9)) C0.1.1 C0.1.2.1 dn_4_16 (by decide +kernel) ?_
  refine n_newa C0.1 h hS tz_125 (x := nI 9) (N := 9) (by decide) (by decide +kernel) (by decide) (Nat.le_of_ble_eq_true rfl) (Nat.le_of_ble_eq_true rfl) dn_4_18 (fun q2 H h hS => ?_)
  replace h : nWd g z (pre ++ [(h0, eO 4 [.null, .null, .ref q1, .null, .null, .null]), (q1, eO 2 nb_2), (q2, eA g 9 (fun _ => 0))]) H := nWd.asc h
  refine n_put C0.1 C0.2.2.2 h hS (pre.length + 0) (nx_at rfl) rfl qv_4_ok qu_4_ok qn_4_ok 3 (by decide) (Nat.le_of_ble_eq_true rfl) tz_318 rfl rfl rfl dn_4_20 (fun H locs h hS => ?_)
  replace h : nWd g z (pre ++ [(h0, eO 4 [.null, .null, .ref q1, .ref q2, .null, .null]), (q1, eO 2 nb_2), (q2, eA g 9 (fun _ => 0))]) H := nWd.st h
  refine lv_aload_n C0.1.1 C0.1.2.1 dn_4_23 rfl (lv_at hl 0 rfl) ?_
  refine lv_bipush (v := (nI 32)) C0.1.1 C0.1.2.1 dn_4_24 (by decide +kernel) ?_
  refine n_newa C0.1 h hS tz_125 (x := nI 32) (N := 32) (by decide) (by decide +kernel) (by decide) (Nat.le_of_ble_eq_true rfl) (Nat.le_of_ble_eq_true rfl) dn_4_26 (fun q3 H h hS => ?_)
  replace h : nWd g z (pre ++ [(h0, eO 4 [.null, .null, .ref q1, .ref q2, .null, .null]), (q1, eO 2 nb_2), (q2, eA g 9 (fun _ => 0)), (q3, eA g 32 (fun _ => 0))]) H := nWd.asc h
  refine n_put C0.1 C0.2.2.2 h hS (pre.length + 0) (nx_at rfl) rfl qv_4_ok qu_4_ok qn_4_ok 4 (by decide) (Nat.le_of_ble_eq_true rfl) tz_319 rfl rfl rfl dn_4_28 (fun H locs h hS => ?_)
  replace h : nWd g z (pre ++ [(h0, eO 4 [.null, .null, .ref q1, .ref q2, .ref q3, .null]), (q1, eO 2 nb_2), (q2, eA g 9 (fun _ => 0)), (q3, eA g 32 (fun _ => 0))]) H := nWd.st h
  refine lv_aload_n C0.1.1 C0.1.2.1 dn_4_31 rfl (lv_at hl 0 rfl) ?_
  refine lv_iconst (v := (nI 3)) C0.1.1 C0.1.2.1 dn_4_32 (by decide +kernel) ?_
  refine n_newa C0.1 h hS tz_125 (x := nI 3) (N := 3) (by decide) (by decide +kernel) (by decide) (Nat.le_of_ble_eq_true rfl) (Nat.le_of_ble_eq_true rfl) dn_4_33 (fun q4 H h hS => ?_)
  replace h : nWd g z (pre ++ [(h0, eO 4 [.null, .null, .ref q1, .ref q2, .ref q3, .null]), (q1, eO 2 nb_2), (q2, eA g 9 (fun _ => 0)), (q3, eA g 32 (fun _ => 0)), (q4, eA g 3 (fun _ => 0))]) H := nWd.asc h
  refine n_put C0.1 C0.2.2.2 h hS (pre.length + 0) (nx_at rfl) rfl qv_4_ok qu_4_ok qn_4_ok 5 (by decide) (Nat.le_of_ble_eq_true rfl) tz_320 rfl rfl rfl dn_4_35 (fun H locs h hS => ?_)
  replace h : nWd g z (pre ++ [(h0, eO 4 [.null, .null, .ref q1, .ref q2, .ref q3, .ref q4]), (q1, eO 2 nb_2), (q2, eA g 9 (fun _ => 0)), (q3, eA g 32 (fun _ => 0)), (q4, eA g 3 (fun _ => 0))]) H := nWd.st h
  refine lv_aload_n C0.1.1 C0.1.2.1 dn_4_38 rfl (lv_at hl 0 rfl) ?_
  refine lv_aload_n C0.1.1 C0.1.2.1 dn_4_39 rfl (lv_at hl 1 rfl) ?_
  refine n_put C0.1 C0.2.2.2 h hS (pre.length + 0) (nx_at rfl) rfl qv_4_ok qu_4_ok qn_4_ok 0 (by decide) (Nat.le_of_ble_eq_true rfl) tz_315 rfl rfl rfl dn_4_40 (fun H locs h hS => ?_)
  replace h : nWd g z (pre ++ [(h0, eO 4 [.ref sh, .null, .ref q1, .ref q2, .ref q3, .ref q4]), (q1, eO 2 nb_2), (q2, eA g 9 (fun _ => 0)), (q3, eA g 32 (fun _ => 0)), (q4, eA g 3 (fun _ => 0))]) H := nWd.st h
  refine lv_aload_n C0.1.1 C0.1.2.1 dn_4_43 rfl (lv_at hl 0 rfl) ?_
  refine lv_aload_n C0.1.1 C0.1.2.1 dn_4_44 rfl (lv_at hl 1 rfl) ?_
  refine n_getN C0.1 h i0 (nx_pre hsh) rfl qv_7_ok 4 (by decide) (List.mem_of_getElem? (i := 38) rfl) hsg dn_4_45 ?_
  refine n_put C0.1 C0.2.2.2 h hS (pre.length + 0) (nx_at rfl) rfl qv_4_ok qu_4_ok qn_4_ok 1 (by decide) (Nat.le_of_ble_eq_true rfl) tz_316 rfl rfl rfl dn_4_48 (fun H locs h hS => ?_)
  replace h : nWd g z (pre ++ [(h0, eO 4 [.ref sh, .ref sg, .ref q1, .ref q2, .ref q3, .ref q4]), (q1, eO 2 nb_2), (q2, eA g 9 (fun _ => 0)), (q3, eA g 32 (fun _ => 0)), (q4, eA g 3 (fun _ => 0))]) H := nWd.st h
  exact n_ret C0 h hS ⟨q1, q2, q3, q4, rfl⟩ dn_4_51
theorem n_X10 {l : Launch} {g : qw_Ad} {z : Nat} {pre : va_W} {h0 : Nat} {sh sg i0 : Nat} {fs : List Value} (hsh : pre[i0]? = some (sh, eO 7 fs)) (hsg : fs[4]? = some (.ref sg)) : nMt l my_X10_init g z 2 42 3 266 [.ref h0, .ref sh] (pre ++ [(h0, eO 10 nb_10)]) (fun ws1 => ∃ q1 : Nat, ∃ q2 : Nat, ∃ q3 : Nat, ws1 = pre ++ [(h0, eO 10 [.ref sh, .ref sg, .ref q1, .ref q3]), (q1, eO 5 [.ref q2, .int 0]), (q2, eA g 8 (fun _ => 0)), (q3, eA g 256 (fun _ => 0))]) := by
  refine nMt.of (by decide +kernel) rfl rfl ?_
  intro p e s m args below meth c C0 h lsA hl
  have hS : nSt z s s.heap [] := va_S.rf
  generalize hH : s.heap = H at h hS ⊢
  refine lv_aload_n C0.1.1 C0.1.2.1 dn_10_0 rfl (lv_at hl 0 rfl) ?_
  refine n_obj C0.1 tz_339 tz_101 tz_102 hl.1 (Nat.le_of_ble_eq_true rfl) (Nat.le_of_ble_eq_true rfl) dn_10_1 ?_
  refine lv_aload_n C0.1.1 C0.1.2.1 dn_10_4 rfl (lv_at hl 0 rfl) ?_
  refine n_new C0.1 h hS (ci := 5) (T := qt_5) (N := 2) (fs := nb_5) rfl qv_5_ok qu_5_ok nb_5_ok tz_340 tz_104 tz_75 (Nat.le_of_ble_eq_true rfl) (Nat.le_of_ble_eq_true rfl) dn_10_5 (fun q1 H h hS => ?_)
  refine lv_dup C0.1.1 C0.1.2.1 dn_10_8 rfl ?_
  refine lv_bipush (v := (nI 8)) C0.1.1 C0.1.2.1 dn_10_9 (by decide +kernel) ?_
  refine n_call C0.1 h hS (Yc := my_X5_init) (rest := [.ref q1, .ref h0]) (n_X5 (x0 := nI 8) (n0 := 8) (by decide) (by decide +kernel) (by decide) (by decide +kernel)) tz_341 tz_106 tz_75 tz_107 rfl rfl ⟨by decide, by decide, (show (parseMethodDescriptor (qw_yn my_X5_init).desc).map (fun d => d.parameters.length) = some 1 by decide +kernel)⟩ ⟨(Nat.le_of_ble_eq_true rfl), (Nat.le_of_ble_eq_true rfl)⟩ ⟨(Nat.le_of_ble_eq_true rfl), (Nat.le_of_ble_eq_true rfl)⟩ hl.1 rfl (Nat.le_of_ble_eq_true rfl) dn_10_11 (fun ws1 H locs hres h hS => ?_)
  obtain ⟨q2, rfl⟩ := hres
  replace h : nWd g z (pre ++ [(h0, eO 10 nb_10), (q1, eO 5 [.ref q2, .int 0]), (q2, eA g 8 (fun _ => 0))]) H := nWd.asc h
  refine n_put C0.1 C0.2.2.2 h hS (pre.length + 0) (nx_at rfl) rfl qv_10_ok qu_10_ok qn_10_ok 2 (by decide) (Nat.le_of_ble_eq_true rfl) tz_344 rfl rfl rfl dn_10_14 (fun H locs h hS => ?_)
  replace h : nWd g z (pre ++ [(h0, eO 10 [.null, .null, .ref q1, .null]), (q1, eO 5 [.ref q2, .int 0]), (q2, eA g 8 (fun _ => 0))]) H := nWd.st h
  refine lv_aload_n C0.1.1 C0.1.2.1 dn_10_17 rfl (lv_at hl 0 rfl) ?_
  refine lv_sipush (v := (nI 256)) C0.1.1 C0.1.2.1 dn_10_18 (by decide +kernel) ?_
  refine n_newa C0.1 h hS tz_125 (x := nI 256) (N := 256) (by decide) (by decide +kernel) (by decide) (Nat.le_of_ble_eq_true rfl) (Nat.le_of_ble_eq_true rfl) dn_10_21 (fun q3 H h hS => ?_)
  replace h : nWd g z (pre ++ [(h0, eO 10 [.null, .null, .ref q1, .null]), (q1, eO 5 [.ref q2, .int 0]), (q2, eA g 8 (fun _ => 0)), (q3, eA g 256 (fun _ => 0))]) H := nWd.asc h
  refine n_put C0.1 C0.2.2.2 h hS (pre.length + 0) (nx_at rfl) rfl qv_10_ok qu_10_ok qn_10_ok 3 (by decide) (Nat.le_of_ble_eq_true rfl) tz_346 rfl rfl rfl dn_10_23 (fun H locs h hS => ?_)
  replace h : nWd g z (pre ++ [(h0, eO 10 [.null, .null, .ref q1, .ref q3]), (q1, eO 5 [.ref q2, .int 0]), (q2, eA g 8 (fun _ => 0)), (q3, eA g 256 (fun _ => 0))]) H := nWd.st h
  refine lv_aload_n C0.1.1 C0.1.2.1 dn_10_26 rfl (lv_at hl 0 rfl) ?_
  refine lv_aload_n C0.1.1 C0.1.2.1 dn_10_27 rfl (lv_at hl 1 rfl) ?_
  refine n_put C0.1 C0.2.2.2 h hS (pre.length + 0) (nx_at rfl) rfl qv_10_ok qu_10_ok qn_10_ok 0 (by decide) (Nat.le_of_ble_eq_true rfl) tz_342 rfl rfl rfl dn_10_28 (fun H locs h hS => ?_)
  replace h : nWd g z (pre ++ [(h0, eO 10 [.ref sh, .null, .ref q1, .ref q3]), (q1, eO 5 [.ref q2, .int 0]), (q2, eA g 8 (fun _ => 0)), (q3, eA g 256 (fun _ => 0))]) H := nWd.st h
  refine lv_aload_n C0.1.1 C0.1.2.1 dn_10_31 rfl (lv_at hl 0 rfl) ?_
  refine lv_aload_n C0.1.1 C0.1.2.1 dn_10_32 rfl (lv_at hl 1 rfl) ?_
  refine n_getN C0.1 h i0 (nx_pre hsh) rfl qv_7_ok 4 (by decide) (List.mem_of_getElem? (i := 37) rfl) hsg dn_10_33 ?_
  refine n_put C0.1 C0.2.2.2 h hS (pre.length + 0) (nx_at rfl) rfl qv_10_ok qu_10_ok qn_10_ok 1 (by decide) (Nat.le_of_ble_eq_true rfl) tz_343 rfl rfl rfl dn_10_36 (fun H locs h hS => ?_)
  replace h : nWd g z (pre ++ [(h0, eO 10 [.ref sh, .ref sg, .ref q1, .ref q3]), (q1, eO 5 [.ref q2, .int 0]), (q2, eA g 8 (fun _ => 0)), (q3, eA g 256 (fun _ => 0))]) H := nWd.st h
  exact n_ret C0 h hS ⟨q1, q2, q3, rfl⟩ dn_10_39
theorem n_X0 {l : Launch} {g : qw_Ad} {z : Nat} {pre : va_W} {h0 : Nat} {sh : Nat} : nMt l my_X0_init g z 2 32 3 44 [.ref h0, .ref sh] (pre ++ [(h0, eO 0 nb_0)]) (fun ws1 => ∃ q1 : Nat, ∃ q2 : Nat, ∃ q3 : Nat, ws1 = pre ++ [(h0, eO 0 [.ref sh, .ref q1, .long 0, .long 1]), (q1, eO 1 [.ref q2, .ref q3, .int 0, .int (Int32.ofInt (Int.negSucc 0))]), (q2, eA g 20 (fun _ => 0)), (q3, eA g 20 (fun _ => 0))]) := by
  refine nMt.of (by decide +kernel) rfl rfl ?_
  intro p e s m args below meth c C0 h lsA hl
  have hS : nSt z s s.heap [] := va_S.rf
  generalize hH : s.heap = H at h hS ⊢
  refine lv_aload_n C0.1.1 C0.1.2.1 dn_0_0 rfl (lv_at hl 0 rfl) ?_
  refine n_obj C0.1 tz_361 tz_101 tz_102 hl.1 (Nat.le_of_ble_eq_true rfl) (Nat.le_of_ble_eq_true rfl) dn_0_1 ?_
  refine lv_aload_n C0.1.1 C0.1.2.1 dn_0_4 rfl (lv_at hl 0 rfl) ?_
  refine n_new C0.1 h hS (ci := 1) (T := qt_1) (N := 4) (fs := nb_1) rfl qv_1_ok qu_1_ok nb_1_ok tz_362 tz_172 tz_79 (Nat.le_of_ble_eq_true rfl) (Nat.le_of_ble_eq_true rfl) dn_0_5 (fun q1 H h hS => ?_)
  refine lv_dup C0.1.1 C0.1.2.1 dn_0_8 rfl ?_
  refine n_callN C0.1 h hS (Yc := my_X1_init) (rest := [.ref q1, .ref h0]) (n_X1) (List.mem_of_getElem? (i := 7) rfl) tz_174 tz_79 tz_175 rfl rfl ⟨by decide, by decide, (show (parseMethodDescriptor (qw_yn my_X1_init).desc).map (fun d => d.parameters.length) = some 0 by decide +kernel)⟩ ⟨(Nat.le_of_ble_eq_true rfl), (Nat.le_of_ble_eq_true rfl)⟩ ⟨(Nat.le_of_ble_eq_true rfl), (Nat.le_of_ble_eq_true rfl)⟩ hl.1 rfl (Nat.le_of_ble_eq_true rfl) dn_0_9 (fun ws1 H locs hres h hS => ?_)
  obtain ⟨q2, q3, rfl⟩ := hres
  replace h : nWd g z (pre ++ [(h0, eO 0 nb_0), (q1, eO 1 [.ref q2, .ref q3, .int 0, .int (Int32.ofInt (Int.negSucc 0))]), (q2, eA g 20 (fun _ => 0)), (q3, eA g 20 (fun _ => 0))]) H := nWd.asc h
  refine n_put C0.1 C0.2.2.2 h hS (pre.length + 0) (nx_at rfl) rfl qv_0_ok qu_0_ok qn_0_ok 1 (by decide) (Nat.le_of_ble_eq_true rfl) tz_365 rfl rfl rfl dn_0_12 (fun H locs h hS => ?_)
  replace h : nWd g z (pre ++ [(h0, eO 0 [.null, .ref q1, .long 0, .long 0]), (q1, eO 1 [.ref q2, .ref q3, .int 0, .int (Int32.ofInt (Int.negSucc 0))]), (q2, eA g 20 (fun _ => 0)), (q3, eA g 20 (fun _ => 0))]) H := nWd.st h
  refine lv_aload_n C0.1.1 C0.1.2.1 dn_0_15 rfl (lv_at hl 0 rfl) ?_
  refine lv_lconst (v := 1) C0.1.1 C0.1.2.1 dn_0_16 (by decide +kernel) ?_
  refine n_put C0.1 C0.2.2.2 h hS (pre.length + 0) (nx_at rfl) rfl qv_0_ok qu_0_ok qn_0_ok 3 (by decide) (Nat.le_of_ble_eq_true rfl) tz_368 rfl rfl rfl dn_0_17 (fun H locs h hS => ?_)
  replace h : nWd g z (pre ++ [(h0, eO 0 [.null, .ref q1, .long 0, .long 1]), (q1, eO 1 [.ref q2, .ref q3, .int 0, .int (Int32.ofInt (Int.negSucc 0))]), (q2, eA g 20 (fun _ => 0)), (q3, eA g 20 (fun _ => 0))]) H := nWd.st h
  refine lv_aload_n C0.1.1 C0.1.2.1 dn_0_20 rfl (lv_at hl 0 rfl) ?_
  refine lv_aload_n C0.1.1 C0.1.2.1 dn_0_21 rfl (lv_at hl 1 rfl) ?_
  refine n_put C0.1 C0.2.2.2 h hS (pre.length + 0) (nx_at rfl) rfl qv_0_ok qu_0_ok qn_0_ok 0 (by decide) (Nat.le_of_ble_eq_true rfl) tz_364 rfl rfl rfl dn_0_22 (fun H locs h hS => ?_)
  replace h : nWd g z (pre ++ [(h0, eO 0 [.ref sh, .ref q1, .long 0, .long 1]), (q1, eO 1 [.ref q2, .ref q3, .int 0, .int (Int32.ofInt (Int.negSucc 0))]), (q2, eA g 20 (fun _ => 0)), (q3, eA g 20 (fun _ => 0))]) H := nWd.st h
  exact n_ret C0 h hS ⟨q1, q2, q3, rfl⟩ dn_0_25
theorem n_X6 {l : Launch} {g : qw_Ad} {z : Nat} {pre : va_W} {h0 : Nat} : nMt l my_X6_init g z 1 12 1 60 [.ref h0] (pre ++ [(h0, eO 6 nb_6)]) (fun ws1 => ∃ q1 : Nat, ws1 = pre ++ [(h0, eO 6 [.ref q1, .int (Int32.ofInt (Int.negSucc 0)), .int 0]), (q1, eA g 60 (fun _ => 0))]) := by
  refine nMt.of (by decide +kernel) rfl rfl ?_
  intro p e s m args below meth c C0 h lsA hl
  have hS : nSt z s s.heap [] := va_S.rf
  generalize hH : s.heap = H at h hS ⊢
  refine lv_aload_n C0.1.1 C0.1.2.1 dn_6_0 rfl (lv_at hl 0 rfl) ?_
  refine n_obj C0.1 tz_385 tz_101 tz_102 hl.1 (Nat.le_of_ble_eq_true rfl) (Nat.le_of_ble_eq_true rfl) dn_6_1 ?_
  refine lv_aload_n C0.1.1 C0.1.2.1 dn_6_4 rfl (lv_at hl 0 rfl) ?_
  refine lv_bipush (v := (nI 60)) C0.1.1 C0.1.2.1 dn_6_5 (by decide +kernel) ?_
  refine n_newa C0.1 h hS tz_125 (x := nI 60) (N := 60) (by decide) (by decide +kernel) (by decide) (Nat.le_of_ble_eq_true rfl) (Nat.le_of_ble_eq_true rfl) dn_6_7 (fun q1 H h hS => ?_)
  replace h : nWd g z (pre ++ [(h0, eO 6 nb_6), (q1, eA g 60 (fun _ => 0))]) H := nWd.asc h
  refine n_put C0.1 C0.2.2.2 h hS (pre.length + 0) (nx_at rfl) rfl qv_6_ok qu_6_ok qn_6_ok 0 (by decide) (Nat.le_of_ble_eq_true rfl) tz_386 rfl rfl rfl dn_6_9 (fun H locs h hS => ?_)
  replace h : nWd g z (pre ++ [(h0, eO 6 [.ref q1, .int 0, .int 0]), (q1, eA g 60 (fun _ => 0))]) H := nWd.st h
  refine lv_aload_n C0.1.1 C0.1.2.1 dn_6_12 rfl (lv_at hl 0 rfl) ?_
  refine lv_iconst (v := (Int32.ofInt (Int.negSucc 0))) C0.1.1 C0.1.2.1 dn_6_13 (by decide +kernel) ?_
  refine n_put C0.1 C0.2.2.2 h hS (pre.length + 0) (nx_at rfl) rfl qv_6_ok qu_6_ok qn_6_ok 1 (by decide) (Nat.le_of_ble_eq_true rfl) tz_388 rfl rfl rfl dn_6_14 (fun H locs h hS => ?_)
  replace h : nWd g z (pre ++ [(h0, eO 6 [.ref q1, .int (Int32.ofInt (Int.negSucc 0)), .int 0]), (q1, eA g 60 (fun _ => 0))]) H := nWd.st h
  exact n_ret C0 h hS ⟨q1, rfl⟩ dn_6_17
