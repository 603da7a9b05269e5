/-! Glow: three of them (18 what THE PICTURE tells, 28 the stage's, 30 the others'): G c is the light of cell c -/
def gl (σ : qw_M) (k : Nat) (G : Nat → Nat) : Prop := ∀ c, c < 32 → G c < 8 ∧ bt ((σ k).1 0) c = (G c).testBit 2 ∧ bt ((σ k).1 1) c = (G c).testBit 1 ∧ bt ((σ k).1 2) c = (G c).testBit 0
def qr_glow (k : Nat) : Prop := k = 18 ∨ k = 28 ∨ k = 30
theorem gl.fr {σ σ' : qw_M} {k : Nat} {G : Nat → Nat} {l : List Nat} (h : gl σ k G) (hf : fr l σ σ') (hk : k ∉ l) : gl σ' k G := by
  intro c hc
  rw [hf k hk]
  exact h c hc
theorem gl.congr {σ : qw_M} {k : Nat} {G G2 : Nat → Nat} (h : gl σ k G) (hg : ∀ c, c < 32 → G2 c = G c) : gl σ k G2 := by
  intro c hc
  rw [hg c hc]
  exact h c hc
/-- what a figure of a colour leaves of a light -/
def leave (q : Nat) : Nat := match q with
  | 0 => 0
  | 1 => 4
  | 2 => 2
  | _ => 1
theorem t8 : ∀ g, g < 8 → 4 * (g.testBit 2).toNat + 2 * (g.testBit 1).toNat + (g.testBit 0).toNat = g := by decide
theorem m_fill {k : Nat} (hk : qr_glow k) (x : Int32) {σ : qw_M} : qw_Mt qw_tw wC my_X2_fill [.ref k, .int x] σ (fun _ σ' => fr [k] σ σ' ∧ (σ' k).1 0 = x ∧ (σ' k).1 1 = x ∧ (σ' k).1 2 = x) := by
  rcases hk with rfl | rfl | rfl
  all_goals
    refine mt_X2_fill rfl (ev_X2_fill [] 100 ?_)
    refine ⟨((fr.pi (List.mem_cons_self)).tr (fr.pi (List.mem_cons_self))).tr (fr.pi (List.mem_cons_self)), ?_, ?_, ?_⟩ <;> simp [pi_at]
theorem m_fill0 {k : Nat} (hk : qr_glow k) {σ : qw_M} : qw_Mt qw_tw wC my_X2_fill [.ref k, .int (nI 0)] σ (fun _ σ' => fr [k] σ σ' ∧ gl σ' k (fun _ => 0)) :=
  mt_mono (m_fill hk _) (fun r σ' ⟨h1, h2, h3, h4⟩ => ⟨h1, fun c hc => by
    have h0 : ∀ i, i < 32 → bt (nI 0) i = false := by decide +kernel
    rw [h2, h3, h4, h0 c hc]
    exact (by decide : (0 : Nat) < 8 ∧ false = (0 : Nat).testBit 2 ∧ false = (0 : Nat).testBit 1 ∧ false = (0 : Nat).testBit 0)⟩)
theorem m_fill7 {k : Nat} (hk : qr_glow k) {σ : qw_M} : qw_Mt qw_tw wC my_X2_fill [.ref k, .int (Int32.ofInt (Int.negSucc 0))] σ (fun _ σ' => fr [k] σ σ' ∧ gl σ' k (fun _ => 7)) :=
  mt_mono (m_fill hk _) (fun r σ' ⟨h1, h2, h3, h4⟩ => ⟨h1, fun c hc => by
    have h0 : ∀ i, i < 32 → bt (Int32.ofInt (Int.negSucc 0)) i = true := by decide +kernel
    rw [h2, h3, h4, h0 c hc]
    exact (by decide : (7 : Nat) < 8 ∧ true = (7 : Nat).testBit 2 ∧ true = (7 : Nat).testBit 1 ∧ true = (7 : Nat).testBit 0)⟩)
theorem m_become {k q : Nat} (hk : (k = 30 ∧ q = 28) ∨ (k = 28 ∧ q = 30)) {σ : qw_M} {G : Nat → Nat} (hg : gl σ q G) : qw_Mt qw_tw wC my_X2_become [.ref k, .ref q] σ (fun _ σ' => fr [k] σ σ' ∧ gl σ' k G) := by
  rcases hk with ⟨rfl, rfl⟩ | ⟨rfl, rfl⟩
  all_goals
    refine mt_X2_become rfl (ev_X2_become [] 100 ?_)
    refine ⟨((fr.pi (List.mem_cons_self)).tr (fr.pi (List.mem_cons_self))).tr (fr.pi (List.mem_cons_self)), fun c hc => ?_⟩
    obtain ⟨h0, h1, h2, h3⟩ := hg c hc
    refine ⟨h0, ?_, ?_, ?_⟩
    · rw [← h1]
      simp [pi_at, pi_off]
    · rw [← h2]
      simp [pi_at, pi_off]
    · rw [← h3]
      simp [pi_at, pi_off]
theorem m_lightOf {k : Nat} (hk : qr_glow k) {σ : qw_M} {G : Nat → Nat} (hg : gl σ k G) {c : Nat} (hc : c < 32) : qw_Mt qw_tw wC my_X2_lightOf [.ref k, .int (nI c)] σ (fun r σ' => σ' = σ ∧ r = some (.int (nI (G c)))) := by
  obtain ⟨h0, h1, h2, h3⟩ := hg c hc
  rcases hk with rfl | rfl | rfl
  all_goals
    refine mt_X2_lightOf rfl (ev_X2_lightOf [] 100 ?_)
    refine ⟨rfl, ?_⟩
    show some (Value.int _) = _
    congr 2
    rw [bt_u hc, bt_u hc, bt_u hc, h1, h2, h3]
    revert h0
    generalize G c = g
    revert g
    decide +kernel
theorem m_dim {k : Nat} (hk : qr_glow k) {σ : qw_M} {G : Nat → Nat} (hg : gl σ k G) {m : Nat → Bool} {x : Int32} (hx : ∀ c, c < 32 → bt x c = m c) {q : Nat} (hq : q < 4) : qw_Mt qw_tw wC my_X2_dim [.ref k, .int x, .int (nI q)] σ (fun _ σ' => fr [k] σ σ' ∧ gl σ' k (fun c => if m c then G c &&& leave q else G c)) := by
  have key : ∀ g, g < 8 → ∀ b : Bool, ((g.testBit 2 && !b) = (if b then g &&& leave 0 else g).testBit 2 ∧ (g.testBit 1 && !b) = (if b then g &&& leave 0 else g).testBit 1 ∧ (g.testBit 0 && !b) = (if b then g &&& leave 0 else g).testBit 0) ∧
      (g.testBit 2 = (if b then g &&& leave 1 else g).testBit 2 ∧ (g.testBit 1 && !b) = (if b then g &&& leave 1 else g).testBit 1 ∧ (g.testBit 0 && !b) = (if b then g &&& leave 1 else g).testBit 0) ∧
      ((g.testBit 2 && !b) = (if b then g &&& leave 2 else g).testBit 2 ∧ g.testBit 1 = (if b then g &&& leave 2 else g).testBit 1 ∧ (g.testBit 0 && !b) = (if b then g &&& leave 2 else g).testBit 0) ∧
      ((g.testBit 2 && !b) = (if b then g &&& leave 3 else g).testBit 2 ∧ (g.testBit 1 && !b) = (if b then g &&& leave 3 else g).testBit 1 ∧ g.testBit 0 = (if b then g &&& leave 3 else g).testBit 0) ∧ (∀ q, q < 4 → (if b then g &&& leave q else g) < 8) := by decide +kernel
  rcases (show q = 0 ∨ q = 1 ∨ q = 2 ∨ q = 3 by omega) with rfl | rfl | rfl | rfl
  · rcases hk with rfl | rfl | rfl
    all_goals
      refine mt_X2_dim rfl (ev_X2_dim [] 100 ?_)
      refine vf (by decide) ?_
      refine vf (by decide) ?_
      refine vf (by decide) ?_
      refine ⟨((fr.pi (List.mem_cons_self)).tr (fr.pi (List.mem_cons_self))).tr (fr.pi (List.mem_cons_self)), fun c hc => ?_⟩
      obtain ⟨h0, h1, h2, h3⟩ := hg c hc
      obtain ⟨k1, k2, k3⟩ := (key (G c) h0 (m c)).1
      refine ⟨(key (G c) h0 (m c)).2.2.2.2 0 (by omega), ?_, ?_, ?_⟩
      · rw [← k1, ← h1, ← hx c hc, ← bt_neg hc]
        simp [pi_at]
      · rw [← k2, ← h2, ← hx c hc, ← bt_neg hc]
        simp [pi_at]
      · rw [← k3, ← h3, ← hx c hc, ← bt_neg hc]
        simp [pi_at]
  · rcases hk with rfl | rfl | rfl
    all_goals
      refine mt_X2_dim rfl (ev_X2_dim [] 100 ?_)
      refine vt (by decide) ?_
      refine vf (by decide) ?_
      refine vf (by decide) ?_
      refine ⟨(fr.pi (List.mem_cons_self)).tr (fr.pi (List.mem_cons_self)), fun c hc => ?_⟩
      obtain ⟨h0, h1, h2, h3⟩ := hg c hc
      obtain ⟨k1, k2, k3⟩ := (key (G c) h0 (m c)).2.1
      refine ⟨(key (G c) h0 (m c)).2.2.2.2 1 (by omega), ?_, ?_, ?_⟩
      · rw [← k1, ← h1]
        simp [pi_at]
      · rw [← k2, ← h2, ← hx c hc, ← bt_neg hc]
        simp [pi_at]
      · rw [← k3, ← h3, ← hx c hc, ← bt_neg hc]
        simp [pi_at]
  · rcases hk with rfl | rfl | rfl
    all_goals
      refine mt_X2_dim rfl (ev_X2_dim [] 100 ?_)
      refine vf (by decide) ?_
      refine vt (by decide) ?_
      refine vf (by decide) ?_
      refine ⟨(fr.pi (List.mem_cons_self)).tr (fr.pi (List.mem_cons_self)), fun c hc => ?_⟩
      obtain ⟨h0, h1, h2, h3⟩ := hg c hc
      obtain ⟨k1, k2, k3⟩ := (key (G c) h0 (m c)).2.2.1
      refine ⟨(key (G c) h0 (m c)).2.2.2.2 2 (by omega), ?_, ?_, ?_⟩
      · rw [← k1, ← h1, ← hx c hc, ← bt_neg hc]
        simp [pi_at]
      · rw [← k2, ← h2]
        simp [pi_at]
      · rw [← k3, ← h3, ← hx c hc, ← bt_neg hc]
        simp [pi_at]
  · rcases hk with rfl | rfl | rfl
    all_goals
      refine mt_X2_dim rfl (ev_X2_dim [] 100 ?_)
      refine vf (by decide) ?_
      refine vf (by decide) ?_
      refine vt (by decide) ?_
      refine ⟨(fr.pi (List.mem_cons_self)).tr (fr.pi (List.mem_cons_self)), fun c hc => ?_⟩
      obtain ⟨h0, h1, h2, h3⟩ := hg c hc
      obtain ⟨k1, k2, k3⟩ := (key (G c) h0 (m c)).2.2.2.1
      refine ⟨(key (G c) h0 (m c)).2.2.2.2 3 (by omega), ?_, ?_, ?_⟩
      · rw [← k1, ← h1, ← hx c hc, ← bt_neg hc]
        simp [pi_at]
      · rw [← k2, ← h2, ← hx c hc, ← bt_neg hc]
        simp [pi_at]
      · rw [← k3, ← h3]
        simp [pi_at]
theorem m_dark {k : Nat} (hk : qr_glow k) {σ : qw_M} {G : Nat → Nat} (hg : gl σ k G) : qw_Mt qw_tw wC my_X2_dark [.ref k] σ (fun r σ' => σ' = σ ∧ r = some (.int (nI (cnt (fun c => G c == 0) 32)))) := by
  have key : ∀ f : Nat → Bool, ∀ n, cnt f n + cnt (fun c => !f c) n = n := by
    intro f n
    induction n with
    | zero => rfl
    | succ n ih =>
      show cnt f n + (f n).toNat + (cnt (fun c => !f c) n + (!f n).toNat) = n + 1
      cases f n <;> simp <;> omega
  have e : cnt (bt ((σ k).1 0 ||| (σ k).1 1 ||| (σ k).1 2)) 32 = cnt (fun c => !(G c == 0)) 32 := cnt_congr (fun c hc => by
    obtain ⟨h0, h1, h2, h3⟩ := hg c hc
    rw [b_or, b_or, h1, h2, h3]
    revert h0
    generalize G c = g
    revert g
    decide)
  rcases hk with rfl | rfl | rfl
  all_goals
    refine mt_X2_dark rfl (ev_X2_dark [] 100 ?_)
    refine ⟨trivial, _, m_bitCount _, fun x σ' ⟨h1, h2⟩ => ?_⟩
    cases h2
    subst h1
    refine ⟨rfl, ?_⟩
    show some (Value.int _) = _
    have := key (fun c => G c == 0) 32
    rw [e, pk_sub (by have := cnt_le (fun c => !(G c == 0)) 32; omega)]
    rw [show 32 - cnt (fun c => !(G c == 0)) 32 = cnt (fun c => G c == 0) 32 by omega]
theorem m_set {σ : qw_M} {c v : Nat} (hc : c < 32) (hv : v < 8) : qw_Mt qw_tw wC my_X2_set [.ref 18, .int (nI c), .int (nI v)] σ (fun _ σ' => fr [18] σ σ' ∧ ∀ i, i < 32 →
    bt ((σ' 18).1 0) i = (bt ((σ 18).1 0) i || (decide (i = c) && v.testBit 2)) ∧ bt ((σ' 18).1 1) i = (bt ((σ 18).1 1) i || (decide (i = c) && v.testBit 1)) ∧ bt ((σ' 18).1 2) i = (bt ((σ 18).1 2) i || (decide (i = c) && v.testBit 0))) := by
  have key : ∀ b : Bool, ∀ i, i < 32 → bt (nI b.toNat <<< (nI c &&& 31)) i = (decide (i = c) && b) := by
    intro b i hi
    cases b with
    | false =>
      rw [b_shl c hc _ hi]
      show (decide (c ≤ i) && bt (nI 0) (i - c)) = _
      have : bt (nI 0) (i - c) = false := b_0 _
      rw [this]
      simp
    | true =>
      rw [show nI (true.toNat) = nI 1 from rfl, bt_shl1 hc hi]
      simp
  have e2 : (nI v >>> (nI 2 &&& 31)) &&& nI 1 = nI (v.testBit 2).toNat := by rw [bt_s (by omega), bt_nI (by omega)]
  have e1 : (nI v >>> (nI 1 &&& 31)) &&& nI 1 = nI (v.testBit 1).toNat := by rw [bt_s (by omega), bt_nI (by omega)]
  have e0 : nI v &&& nI 1 = nI (v.testBit 0).toNat := (by decide +kernel : ∀ v, v < 8 → nI v &&& nI 1 = nI (v.testBit 0).toNat) v hv
  refine mt_X2_set rfl (ev_X2_set [] 100 ?_)
  refine ⟨((fr.pi (List.mem_cons_self)).tr (fr.pi (List.mem_cons_self))).tr (fr.pi (List.mem_cons_self)), fun i hi => ⟨?_, ?_, ?_⟩⟩
  · rw [← key _ i hi, ← b_or, ← e2]
    simp [pi_at]
  · rw [← key _ i hi, ← b_or, ← e1]
    simp [pi_at]
  · rw [← key _ i hi, ← b_or, ← e0]
    simp [pi_at]
