/-! Plans, what was seen, chance -/
noncomputable def amI (v : Nat → Nat) (N : Nat) : Nat := Classical.epsilon (amn v N)
theorem the_amn {v : Nat → Nat} {N i : Nat} (h : amn v N i) : i = amI v N := amn_u h (Classical.epsilon_spec ⟨i, h⟩)
def pick (i : Nat) (a b c : Int32) : Int32 := if i = 0 then a else if i = 1 then b else c
theorem pk2_u {z : Bool} {N : Nat} {f1 : Nat → Bool} {f2 : Nat → Nat → Bool} {lo : Nat → Nat} {k x y k' x' y' : Int32} (h : pk2 z N f1 f2 lo k x y) (h2 : pk2 z N f1 f2 lo k' x' y') : k' = k ∧ x' = x ∧ y' = y := by
  rcases h with ⟨a0, a1, a2, a3⟩ | ⟨a0, A, a1, a2, a3, a4, a5, a6⟩ | ⟨a0, a1, A, B, a2, a3, a4, a5, a6, a7, a8, a9⟩ | ⟨a0, a1, a2, a3, a4, a5⟩ <;>
  rcases h2 with ⟨b0, b1, b2, b3⟩ | ⟨b0, A', b1, b2, b3, b4, b5, b6⟩ | ⟨b0, b1, A', B', b2, b3, b4, b5, b6, b7, b8, b9⟩ | ⟨b0, b1, b2, b3, b4, b5⟩
  · exact ⟨b1.trans a1.symm, b2.trans a2.symm, b3.trans a3.symm⟩
  · rw [a0] at b0; cases b0
  · rw [a0] at b0; cases b0
  · rw [a0] at b0; cases b0
  · rw [a0] at b0; cases b0
  · have e : A = A' := by
      rcases Nat.lt_trichotomy A A' with q | q | q
      · rw [b3 A q] at a2; cases a2
      · exact q
      · rw [a3 A' q] at b2; cases b2
    subst e
    exact ⟨b4.trans a4.symm, b5.trans a5.symm, b6.trans a6.symm⟩
  · rw [b1 A a1] at a2; cases a2
  · rw [b1 A a1] at a2; cases a2
  · rw [a0] at b0; cases b0
  · rw [a1 A' b1] at b2; cases b2
  · have e : A = A' ∧ B = B' := by
      have l1 : ¬ (A < A' ∨ (A = A' ∧ B < B')) := fun q => by rw [b6 A B a2 a3 a4 q] at a5; cases a5
      have l2 : ¬ (A' < A ∨ (A' = A ∧ B' < B)) := fun q => by rw [a6 A' B' b2 b3 b4 q] at b5; cases b5
      omega
    exact ⟨b7.trans a7.symm, by rw [b8, a8, e.1], by rw [b9, a9, e.2]⟩
  · rw [b2 A B a2 a3 a4] at a5; cases a5
  · rw [a0] at b0; cases b0
  · rw [a1 A' b1] at b2; cases b2
  · rw [a2 A' B' b2 b3 b4] at b5; cases b5
  · exact ⟨b3.trans a3.symm, b4.trans a4.symm, b5.trans a5.symm⟩
def pkR (z : Bool) (N : Nat) (f1 : Nat → Bool) (f2 : Nat → Nat → Bool) (lo : Nat → Nat) (i : Nat) (r : Int32) : Prop := ∃ k x y, pk2 z N f1 f2 lo k x y ∧ r = pick i k x y
theorem the_pk {z : Bool} {N : Nat} {f1 : Nat → Bool} {f2 : Nat → Nat → Bool} {lo : Nat → Nat} {i : Nat} {r : Int32} (h : pkR z N f1 f2 lo i r) : r = the (pkR z N f1 f2 lo i) := by
  refine (the_eq h (fun y hy => ?_)).symm
  obtain ⟨k, x, y1, h1, h2⟩ := h
  obtain ⟨k', x', y', h3, h4⟩ := hy
  obtain ⟨e1, e2, e3⟩ := pk2_u h1 h3
  rw [h2, h4, e1, e2, e3]
/-- none, or one of two -/
def ni3 (x : Int32) : Option Nat := if x = m1 then some 0 else match nn x 2 with
  | some i => some (i + 1)
  | none => none
noncomputable def hgA (A : AS) (f s w : Nat) : Int32 := pick w (nI (1 + amI (hgv (aT A) (aC A) (aP A) (aKn A) (aKa A) (aL A) f s) 256 / 32)) (nI (amI (hgv (aT A) (aC A) (aP A) (aKn A) (aKa A) (aL A) f s) 256 % 32)) (nI (hgv (aT A) (aC A) (aP A) (aKn A) (aKa A) (aL A) f s (amI (hgv (aT A) (aC A) (aP A) (aKn A) (aKa A) (aL A) f s) 256)))
noncomputable def sfA (A : AS) (s w : Nat) : Int32 := pick w (nI (amI (sfv (aT A) (aC A) (aP A) (aKn A) (aKa A) s) 32)) (nI (sfv (aT A) (aC A) (aP A) (aKn A) (aKa A) s (amI (sfv (aT A) (aC A) (aP A) (aKn A) (aKa A) s) 32))) m1
noncomputable def moA (A : AS) (i : Nat) : Int32 := the (pkR (psh (aP A) (lgS (aT A) (aC A) (aKn A) (aKa A) (aL A) 19)) (4 * tF (aT A)) (mo1 (aT A) (aC A) (aP A) (aKn A) (aKa A) (aL A)) (mo2 (aT A) (aC A) (aP A) (aKn A) (aKa A) (aL A)) (fun _ => 0) i)
noncomputable def leA (A : AS) (s i : Nat) : Int32 := the (pkR (lev (aT A) (aC A) (aP A) (aKn A) (aKa A) (aL A) s (fun _ => false)) (tF (aT A)) (fun X => lev (aT A) (aC A) (aP A) (aKn A) (aKa A) (aL A) s (lv1 X)) (fun X Y => lev (aT A) (aC A) (aP A) (aKn A) (aKa A) (aL A) s (lv2 X Y)) (fun X => X + 1) i)
noncomputable def do_hang (A : AS) (x y w : Int32) : Int32 := match nn x (tF (aT A)) with
  | none => bad
  | some f => match nn y 20 with
    | none => bad
    | some s => match nn w 3 with
      | none => bad
      | some k => hgA A f s k
theorem c_hang {σ : qw_M} {A : AS} (h : KC σ A) (x y w : Int32) : qw_Mt qw_tw wC my_X11_hang [.ref 0, .int x, .int y, .int w] σ (post (do_hang A x y w, A)) := by
  refine mt_X11_hang rfl (ev_X11_hang [] 100 ?_)
  unfold do_hang
  refine ⟨trivial, _, m_hasn h.2.2.1.1 x, fun z σ1 _ ⟨k1, k2⟩ => ?_⟩
  have k1 := k1.symm
  subst k1
  cases k2
  cases hf : nn x (tF (aT A)) with
  | none =>
    refine vt rfl ?_
    exact ⟨h, rfl⟩
  | some f =>
    obtain ⟨bf, rfl⟩ := nn_some (by have := h.2.2.1.1.1.1; omega) hf
    refine vf n10 ?_
    refine ⟨trivial, _, m_isBelow y (n := 20) (by decide), fun z σ1 _ ⟨k1, k2⟩ => ?_⟩
    have k1 := k1.symm
    subst k1
    cases k2
    cases hs : nn y 20 with
    | none =>
      refine vt rfl ?_
      exact ⟨h, rfl⟩
    | some s =>
      obtain ⟨bs, rfl⟩ := nn_some (by decide) hs
      refine vf n10 ?_
      refine ⟨trivial, _, m_isBelow w (n := 3) (by decide), fun z σ1 _ ⟨k1, k2⟩ => ?_⟩
      have k1 := k1.symm
      subst k1
      cases k2
      cases hk : nn w 3 with
      | none =>
        refine vnf rfl ?_
        exact ⟨h, rfl⟩
      | some k =>
        obtain ⟨bk, rfl⟩ := nn_some (by decide) hk
        refine vnt n10 ?_
        refine ⟨trivial, _, m_planHang h.2.2.1 bf bs, fun σ1 ⟨f1, h1, i, hi, hp⟩ => ?_⟩
        have hi := the_amn hi
        subst hi
        refine ⟨trivial, _, m_answer hp bk, fun z σ1 ⟨k1, k2⟩ => ?_⟩
        have k1 := k1.symm
        subst k1
        cases k2
        exact ⟨KCfr h f1 h1, rfl⟩
noncomputable def do_shift (A : AS) (x y : Int32) : Int32 := match nn x 20 with
  | none => bad
  | some s => match nn y 2 with
    | none => bad
    | some k => sfA A s k
theorem c_shift {σ : qw_M} {A : AS} (h : KC σ A) (x y : Int32) : qw_Mt qw_tw wC my_X11_shift [.ref 0, .int x, .int y] σ (post (do_shift A x y, A)) := by
  refine mt_X11_shift rfl (ev_X11_shift [] 100 ?_)
  unfold do_shift
  refine ⟨trivial, _, m_isBelow x (n := 20) (by decide), fun z σ1 _ ⟨k1, k2⟩ => ?_⟩
  have k1 := k1.symm
  subst k1
  cases k2
  cases hs : nn x 20 with
  | none =>
    refine vt rfl ?_
    exact ⟨h, rfl⟩
  | some s =>
    obtain ⟨bs, rfl⟩ := nn_some (by decide) hs
    refine vf n10 ?_
    refine ⟨trivial, _, m_isBelow y (n := 2) (by decide), fun z σ1 _ ⟨k1, k2⟩ => ?_⟩
    have k1 := k1.symm
    subst k1
    cases k2
    cases hk : nn y 2 with
    | none =>
      refine vnf rfl ?_
      exact ⟨h, rfl⟩
    | some k =>
      obtain ⟨bk, rfl⟩ := nn_some (by decide) hk
      refine vnt n10 ?_
      refine ⟨trivial, _, m_planShift h.2.2.1 bs, fun σ1 ⟨f1, h1, i, hi, hp⟩ => ?_⟩
      have hi := the_amn hi
      subst hi
      refine ⟨trivial, _, m_answer hp (i := k) (by omega), fun z σ1 ⟨k1, k2⟩ => ?_⟩
      have k1 := k1.symm
      subst k1
      cases k2
      exact ⟨KCfr h f1 h1, rfl⟩
theorem ni3_1 : ni3 m1 = some 0 := if_pos rfl
theorem ni3_2 {x : Int32} (h : x ≠ m1) : ni3 x = (match nn x 2 with
  | some i => some (i + 1)
  | none => none) := if_neg h
noncomputable def do_more (A : AS) (x : Int32) : Int32 := match ni3 x with
  | none => bad
  | some i => moA A i
theorem c_more {σ : qw_M} {A : AS} (h : KC σ A) (x : Int32) : qw_Mt qw_tw wC my_X11_more [.ref 0, .int x] σ (post (do_more A x, A)) := by
  refine mt_X11_more rfl (ev_X11_more [16] 100 ?_)
  have go : ∀ i, i < 3 → x + nI 1 = nI i → E_X11_more (post (moA A i, A)) 16 [(0, .ref 0), (1, .int x)] [] σ := fun i hi e => by
    refine ev_X11_more [] 100 ?_
    refine ⟨trivial, _, m_planMore h.2.2.1, fun σ1 ⟨f1, h1, k, x1, y1, hk, hp⟩ => ?_⟩
    have ha := fun σ : qw_M => fun (hp : pln σ k x1 y1) => m_answer hp hi
    simp only [← e] at ha
    refine ⟨trivial, _, ha _ hp, fun z σ2 ⟨k1, k2⟩ => ?_⟩
    have k1 := k1.symm
    subst k1
    cases k2
    exact ⟨KCfr h f1 h1, congrArg (fun z => some (Value.int z)) (the_pk ⟨k, x1, y1, hk, rfl⟩)⟩
  unfold do_more
  by_cases e : x = m1
  · subst e
    rw [ni3_1]
    refine vt rfl ?_
    exact go 0 (by decide) (by decide)
  · rw [ni3_2 e]
    refine vf e ?_
    refine ⟨trivial, _, m_isBelow x (n := 2) (by decide), fun z σ1 _ ⟨k1, k2⟩ => ?_⟩
    have k1 := k1.symm
    subst k1
    cases k2
    cases hx : nn x 2 with
    | none =>
      refine vnf rfl ?_
      exact ⟨h, rfl⟩
    | some i =>
      obtain ⟨hi, rfl⟩ := nn_some (by decide) hx
      refine vnt n10 ?_
      exact go (i + 1) (by omega) (nI_add i 1)
noncomputable def do_leave (A : AS) (y x : Int32) : Int32 := match nn y 20 with
  | none => bad
  | some s => match ni3 x with
    | none => bad
    | some i => leA A s i
theorem c_leave {σ : qw_M} {A : AS} (h : KC σ A) (y x : Int32) : qw_Mt qw_tw wC my_X11_leave [.ref 0, .int y, .int x] σ (post (do_leave A y x, A)) := by
  refine mt_X11_leave rfl (ev_X11_leave [25] 100 ?_)
  unfold do_leave
  refine ⟨trivial, _, m_isBelow y (n := 20) (by decide), fun z σ1 _ ⟨k1, k2⟩ => ?_⟩
  have k1 := k1.symm
  subst k1
  cases k2
  cases hy : nn y 20 with
  | none =>
    refine vt rfl ?_
    exact ⟨h, rfl⟩
  | some s =>
    obtain ⟨bs, rfl⟩ := nn_some (by decide) hy
    refine vf n10 ?_
    have go : ∀ i, i < 3 → x + nI 1 = nI i → E_X11_leave (post (leA A s i, A)) 25 [(0, .ref 0), (1, .int (nI s)), (2, .int x)] [] σ := fun i hi e => by
      refine ev_X11_leave [] 100 ?_
      refine ⟨trivial, _, m_planLeave h.2.2.1 bs, fun σ1 ⟨f1, h1, k, x1, y1, hk, hp⟩ => ?_⟩
      have ha := fun σ : qw_M => fun (hp : pln σ k x1 y1) => m_answer hp hi
      simp only [← e] at ha
      refine ⟨trivial, _, ha _ hp, fun z σ2 ⟨k1, k2⟩ => ?_⟩
      have k1 := k1.symm
      subst k1
      cases k2
      exact ⟨KCfr h f1 h1, congrArg (fun z => some (Value.int z)) (the_pk ⟨k, x1, y1, hk, rfl⟩)⟩
    by_cases e : x = m1
    · subst e
      rw [ni3_1]
      refine vt rfl ?_
      exact go 0 (by decide) (by decide)
    · rw [ni3_2 e]
      refine vf e ?_
      refine ⟨trivial, _, m_isBelow x (n := 2) (by decide), fun z σ1 _ ⟨k1, k2⟩ => ?_⟩
      have k1 := k1.symm
      subst k1
      cases k2
      cases hx : nn x 2 with
      | none =>
        refine vnf rfl ?_
        exact ⟨h, rfl⟩
      | some i =>
        obtain ⟨hi, rfl⟩ := nn_some (by decide) hx
        refine vnt n10 ?_
        exact go (i + 1) (by omega) (nI_add i 1)
theorem si_add {σ : qw_M} {n : Nat} {e : Nat → Nat} (h : si σ n e) (hn : n < 8) {v : Nat} (hv : v < 5120) : si (qw_pi (qw_pi σ 36 n (nI v)) 35 1 (nI (n + 1))) (n + 1) (fun i => if i = n then v else e i) := by
  refine ⟨by omega, pi_eq, fun i hi => ?_⟩
  rw [pi_off (c := 36) (k := 35) (by decide), pi_at]
  dsimp only
  by_cases e : i = n
  · rw [if_pos e, if_pos e]
    exact ⟨hv, rfl⟩
  · rw [if_neg e, if_neg e]
    exact h.2.2 i (by omega)
def do_seen (A : AS) (x y w : Int32) : Int32 × AS := match nn x 20 with
  | none => (bad, A)
  | some s => match nn y 32 with
    | none => (bad, A)
    | some c => match nn w 8 with
      | none => (bad, A)
      | some v => if aSn A = 8 then (full, A) else (nI (aSn A + 1), ssi A (aSn A + 1) (fun i => if i = aSn A then (s * 32 + c) * 8 + v else aSe A i))
theorem c_seen {σ : qw_M} {A : AS} (h : KC σ A) (x y w : Int32) : qw_Mt qw_tw wC my_X11_seen [.ref 0, .int x, .int y, .int w] σ (post (do_seen A x y w)) := by
  refine mt_X11_seen rfl (ev_X11_seen [] 100 ?_)
  unfold do_seen
  obtain ⟨q1, q2, q3⟩ := h.2.2.2.1
  refine ⟨trivial, _, m_isBelow x (n := 20) (by decide), fun z σ1 _ ⟨k1, k2⟩ => ?_⟩
  have k1 := k1.symm
  subst k1
  cases k2
  cases hs : nn x 20 with
  | none =>
    refine vt rfl ?_
    exact ⟨h, rfl⟩
  | some s =>
    obtain ⟨bs, rfl⟩ := nn_some (by decide) hs
    refine vf n10 ?_
    refine ⟨trivial, _, m_isBelow y (n := 32) (by decide), fun z σ1 _ ⟨k1, k2⟩ => ?_⟩
    have k1 := k1.symm
    subst k1
    cases k2
    cases hc : nn y 32 with
    | none =>
      refine vt rfl ?_
      exact ⟨h, rfl⟩
    | some c =>
      obtain ⟨bc, rfl⟩ := nn_some (by decide) hc
      refine vf n10 ?_
      refine ⟨trivial, _, m_isBelow w (n := 8) (by decide), fun z σ1 _ ⟨k1, k2⟩ => ?_⟩
      have k1 := k1.symm
      subst k1
      cases k2
      cases hv : nn w 8 with
      | none =>
        refine vnf rfl ?_
        exact ⟨h, rfl⟩
      | some v =>
        obtain ⟨bv, rfl⟩ := nn_some (by decide) hv
        refine vnt n10 ?_
        refine ⟨trivial, _, m_isFull (k := 35) (N := 8) (by unfold qr_row; omega) q2 q1, fun z σ1 _ ⟨k1, k2⟩ => ?_⟩
        have k1 := k1.symm
        subst k1
        rcases k2 with ⟨c1, k2⟩ | ⟨c1, k2⟩
        · cases k2
          refine vt rfl ?_
          refine ⟨trivial, _, m_wadd h.2.2.2.1 c1 s c v, fun z σ1 ⟨k1, k2⟩ => ?_⟩
          cases k2
          dsimp only
          rw [if_neg (by omega)]
          rw [k1]
          exact ⟨KC_si h ((fr.pi (by decide)).tr (fr.pi (by decide))) (si_add h.2.2.2.1 c1 (by omega)), rfl⟩
        · cases k2
          refine vf n10 ?_
          dsimp only
          rw [if_pos c1]
          exact ⟨h, rfl⟩
def do_forget (A : AS) : Int32 × AS := (nI (aSn A), ssi A 0 (aSe A))
theorem c_forget {σ : qw_M} {A : AS} (h : KC σ A) : qw_Mt qw_tw wC my_X11_forget [.ref 0] σ (post (do_forget A)) := by
  refine mt_X11_forget rfl (ev_X11_forget [] 100 ?_)
  unfold do_forget
  obtain ⟨q1, q2, q3⟩ := h.2.2.2.1
  refine ⟨trivial, _, m_clear (k := 35) (N := 8) (by unfold qr_row; omega) q2, fun z σ1 ⟨k1, k2⟩ => ?_⟩
  cases k2
  rw [k1]
  exact ⟨KC_si h (fr.pi (by decide)) ⟨Nat.zero_le _, pi_eq, fun i hi => absurd hi (Nat.not_lt_zero i)⟩, rfl⟩
def agA (A : AS) (skip : Nat → Bool) (x : (Nat → Nat) × (Nat → Nat)) (q : Nat → Nat) : Bool := agr (aT A) (aC A) (aKn A) (aKa A) (aL A) (aSn A) (aSe A) skip x q
def neA (A : AS) : Int32 := bI (fun k => decide (k < 20) && (aC A k).isSome && agA A (fun s => decide (s = k)) (tdp (aT A)) (tC (aT A)))
def coA (A : AS) (f : Nat) : Int32 := bI (fun k => decide (k < 4) && agA A (fun _ => false) (tdp (aT A)) (va_up (tC (aT A)) f k))
def deA (A : AS) (f : Nat) : Int32 := bI (fun k => decide (1 ≤ k ∧ k < 9) && agA A (fun _ => false) (dpt (aT A) f k) (tC (aT A)))
noncomputable def akA (A : AS) (f : Nat) : Int32 := nI (amI (ask (aT A) (aC A) (aKn A) (aKa A) (aL A) f (bt (deA A f))) 32)

theorem c_never {σ : qw_M} {A : AS} (h : KC σ A) : qw_Mt qw_tw wC my_X11_never [.ref 0] σ (post (neA A, A)) := by
  refine mt_X11_never rfl (ev_X11_never [] 100 ?_)
  refine ⟨trivial, _, m_neverSteps h.2.2.1 h.2.2.2.1, fun z σ1 ⟨f1, h1, y, k2, hy⟩ => ?_⟩
  cases k2
  exact ⟨KCfrs h f1 h1, congrArg (fun z => some (Value.int z)) (bI_eq hy)⟩
def do_was (A : AS) (x y : Int32) : Int32 := match nn x (tF (aT A)) with
  | none => bad
  | some f => match nn y 2 with
    | none => bad
    | some w => if w = 0 then coA A f else deA A f
theorem c_was {σ : qw_M} {A : AS} (h : KC σ A) (x y : Int32) : qw_Mt qw_tw wC my_X11_was [.ref 0, .int x, .int y] σ (post (do_was A x y, A)) := by
  refine mt_X11_was rfl (ev_X11_was [] 100 ?_)
  unfold do_was
  refine ⟨trivial, _, m_hasn h.2.2.1.1 x, fun z σ1 _ ⟨k1, k2⟩ => ?_⟩
  have k1 := k1.symm
  subst k1
  cases k2
  cases hf : nn x (tF (aT A)) with
  | none =>
    refine vt rfl ?_
    exact ⟨h, rfl⟩
  | some f =>
    obtain ⟨bf, rfl⟩ := nn_some (by have := h.2.2.1.1.1.1; omega) hf
    refine vf n10 ?_
    refine ⟨trivial, _, m_isBelow y (n := 2) (by decide), fun z σ1 _ ⟨k1, k2⟩ => ?_⟩
    have k1 := k1.symm
    subst k1
    cases k2
    cases hw : nn y 2 with
    | none =>
      refine vnf rfl ?_
      exact ⟨h, rfl⟩
    | some w =>
      obtain ⟨bw, rfl⟩ := nn_some (by decide) hw
      refine vnt n10 ?_
      by_cases w0 : w = 0
      · subst w0
        refine vnf rfl ?_
        refine ⟨trivial, _, m_colours h.2.2.1 h.2.2.2.1 bf, fun z σ1 ⟨f1, h1, y, k2, hy⟩ => ?_⟩
        cases k2
        exact ⟨KCfrs h f1 h1, congrArg (fun z => some (Value.int z)) (bI_eq hy)⟩
      · refine vnt (nI_ne0 (n := w) (by omega) (by omega)) ?_
        refine ⟨trivial, _, m_depths h.2.2.1 h.2.2.2.1 bf, fun z σ1 ⟨f1, h1, y, k2, hy⟩ => ?_⟩
        cases k2
        dsimp only
        rw [if_neg w0]
        exact ⟨KCfrs h f1 h1, congrArg (fun z => some (Value.int z)) (bI_eq hy)⟩
noncomputable def do_ask (A : AS) (x : Int32) : Int32 := match nn x (tF (aT A)) with
  | none => bad
  | some f => akA A f
theorem c_ask {σ : qw_M} {A : AS} (h : KC σ A) (x : Int32) : qw_Mt qw_tw wC my_X11_ask [.ref 0, .int x] σ (post (do_ask A x, A)) := by
  refine mt_X11_ask rfl (ev_X11_ask [] 100 ?_)
  unfold do_ask
  refine ⟨trivial, _, m_hasn h.2.2.1.1 x, fun z σ1 _ ⟨k1, k2⟩ => ?_⟩
  have k1 := k1.symm
  subst k1
  cases k2
  cases hf : nn x (tF (aT A)) with
  | none =>
    refine vt rfl ?_
    exact ⟨h, rfl⟩
  | some f =>
    obtain ⟨bf, rfl⟩ := nn_some (by have := h.2.2.1.1.1.1; omega) hf
    refine vf n10 ?_
    refine ⟨trivial, _, m_depths h.2.2.1 h.2.2.2.1 bf, fun z σ1 ⟨f1, h1, y, k2, hy⟩ => ?_⟩
    cases k2
    have ez : z = deA A f := bI_eq hy
    subst ez
    refine ⟨trivial, _, m_cellToAsk h1 bf _, fun z σ2 ⟨f2, h2, i, hi, k2⟩ => ?_⟩
    cases k2
    have hi := the_amn hi
    subst hi
    exact ⟨KCfr h ((scr_A f1).tr f2) h2, rfl⟩
abbrev badL : Int64 := -9223372036854775806
def postL (v : Int64) (A : AS) : Option Value → qw_M → Prop := fun r σ' => KC σ' A ∧ r = some (.long v)
def suA (A : AS) (c l s w : Nat) : Int64 := if w = 0 then lN (cab (aT A) (aC A) (aP A) (aKn A) (aKa A) (aL A) c (min l s) s / Nat.gcd (cab (aT A) (aC A) (aP A) (aKn A) (aKa A) (aL A) c (min l s) s) (cbe (aT A) (aC A) (min l s))) else lN (cbe (aT A) (aC A) (min l s) / Nat.gcd (cab (aT A) (aC A) (aP A) (aKn A) (aKa A) (aL A) c (min l s) s) (cbe (aT A) (aC A) (min l s)))
def plA (A : AS) (x : Int32) (m w : Nat) : Int32 := nI (if w = 0 then cnt (fun i => psh (aP A) (lgS (aT A) (lotC (tF (aT A)) x m) (aKn A) (aKa A) (aL A) i)) 20 else cnt (fun c => lgS (aT A) (lotC (tF (aT A)) x m) (aKn A) (aKa A) (aL A) 19 c == 0) 32)
def do_stumble (A : AS) (x y w v : Int32) : Int64 := match nn x 17 with
  | none => badL
  | some c => match nn y 10 with
    | none => badL
    | some l => match nn w 20 with
      | none => badL
      | some s => match nn v 2 with
        | none => badL
        | some k => suA A c l s k
theorem c_stumble {σ : qw_M} {A : AS} (h : KC σ A) (x y w v : Int32) : qw_Mt qw_tw wC my_X11_stumble [.ref 0, .int x, .int y, .int w, .int v] σ (postL (do_stumble A x y w v) A) := by
  refine mt_X11_stumble rfl (ev_X11_stumble [] 100 ?_)
  unfold do_stumble
  refine ⟨trivial, _, m_isBelow x (n := 17) (by decide), fun z σ1 _ ⟨k1, k2⟩ => ?_⟩
  have k1 := k1.symm
  subst k1
  cases k2
  cases hc : nn x 17 with
  | none =>
    refine vt rfl ?_
    exact ⟨h, rfl⟩
  | some c =>
    obtain ⟨bc, rfl⟩ := nn_some (by decide) hc
    refine vf n10 ?_
    refine ⟨trivial, _, m_isBelow y (n := 10) (by decide), fun z σ1 _ ⟨k1, k2⟩ => ?_⟩
    have k1 := k1.symm
    subst k1
    cases k2
    cases hl : nn y 10 with
    | none =>
      refine vt rfl ?_
      exact ⟨h, rfl⟩
    | some l =>
      obtain ⟨bl, rfl⟩ := nn_some (by decide) hl
      refine vf n10 ?_
      refine ⟨trivial, _, m_isBelow w (n := 20) (by decide), fun z σ1 _ ⟨k1, k2⟩ => ?_⟩
      have k1 := k1.symm
      subst k1
      cases k2
      cases hs : nn w 20 with
      | none =>
        refine vt rfl ?_
        exact ⟨h, rfl⟩
      | some s =>
        obtain ⟨bs, rfl⟩ := nn_some (by decide) hs
        refine vf n10 ?_
        refine ⟨trivial, _, m_isBelow v (n := 2) (by decide), fun z σ1 _ ⟨k1, k2⟩ => ?_⟩
        have k1 := k1.symm
        subst k1
        cases k2
        cases hk : nn v 2 with
        | none =>
          refine vnf rfl ?_
          exact ⟨h, rfl⟩
        | some k =>
          obtain ⟨bk, rfl⟩ := nn_some (by decide) hk
          refine vnt n10 ?_
          refine ⟨trivial, _, m_reckon h.2.2.1 (c := c) (by omega) bl bs, fun σ1 ⟨f1, h1, a1, a2⟩ => ?_⟩
          by_cases w0 : k = 0
          · subst w0
            refine vnf rfl ?_
            exact ⟨KCfr h f1 h1, congrArg (fun z => some (Value.long z)) a1⟩
          · refine vnt (nI_ne0 (n := k) (by omega) (by omega)) ?_
            dsimp only
            unfold suA
            rw [if_neg w0]
            exact ⟨KCfr h f1 h1, congrArg (fun z => some (Value.long z)) a2⟩
def do_play (A : AS) (x y w : Int32) : Int32 := match nn y 21 with
  | none => bad
  | some m => match nn w 2 with
    | none => bad
    | some k => plA A x m k
theorem c_play {σ : qw_M} {A : AS} (h : KC σ A) (x y w : Int32) : qw_Mt qw_tw wC my_X11_play [.ref 0, .int x, .int y, .int w] σ (post (do_play A x y w, A)) := by
  refine mt_X11_play rfl (ev_X11_play [] 100 ?_)
  unfold do_play
  refine ⟨trivial, _, m_isBelow y (n := 21) (by decide), fun z σ1 _ ⟨k1, k2⟩ => ?_⟩
  have k1 := k1.symm
  subst k1
  cases k2
  cases hm : nn y 21 with
  | none =>
    refine vt rfl ?_
    exact ⟨h, rfl⟩
  | some m =>
    obtain ⟨bm, rfl⟩ := nn_some (by decide) hm
    refine vf n10 ?_
    refine ⟨trivial, _, m_isBelow w (n := 2) (by decide), fun z σ1 _ ⟨k1, k2⟩ => ?_⟩
    have k1 := k1.symm
    subst k1
    cases k2
    cases hk : nn w 2 with
    | none =>
      refine vt rfl ?_
      exact ⟨h, rfl⟩
    | some k =>
      obtain ⟨bk, rfl⟩ := nn_some (by decide) hk
      refine vf n10 ?_
      refine ⟨trivial, _, m_playOut h.2.2.1 x (m := m) (by omega) bk, fun z σ1 ⟨f1, h1, k2⟩ => ?_⟩
      cases k2
      exact ⟨KCfr h f1 h1, rfl⟩
