/-! The calls that ask -/
def do_figure (A : AS) (x y : Int32) : Int32 := match nn x (tF (aT A)) with
  | none => bad
  | some f => match nn y 10 with
    | none => bad
    | some w => dtl (aT A) f w
theorem c_figure {σ : qw_M} {A : AS} (h : KC σ A) (x y : Int32) : qw_Mt qw_tw wC my_X11_figure [.ref 0, .int x, .int y] σ (post (do_figure A x y, A)) := by
  refine mt_X11_figure rfl (ev_X11_figure [] 100 ?_)
  unfold do_figure
  refine ⟨trivial, _, m_hasn h.2.2.1.1 x, fun z σ1 _ ⟨k1, k2⟩ => ?_⟩
  have k1 := k1.symm
  subst k1
  cases k2
  cases hf : nn x (tF (aT A)) with
  | none =>
    refine vt rfl ?_
    exact ⟨h, rfl⟩
  | some f =>
    obtain ⟨bf, rfl⟩ := nn_some (by have := h.2.2.1.1.1.1; omega) hf
    refine vf n10 ?_
    refine ⟨trivial, _, m_isBelow y (n := 10) (by decide), fun z σ1 _ ⟨k1, k2⟩ => ?_⟩
    have k1 := k1.symm
    subst k1
    cases k2
    cases hw : nn y 10 with
    | none =>
      refine vt rfl ?_
      exact ⟨h, rfl⟩
    | some w =>
      obtain ⟨bw, rfl⟩ := nn_some (by decide) hw
      refine vf n10 ?_
      refine ⟨trivial, _, m_detail h.2.2.1.1 bf bw, fun z σ1 ⟨k1, k2⟩ => ?_⟩
      have k1 := k1.symm
      subst k1
      cases k2
      exact ⟨h, rfl⟩
def do_cue (A : AS) (x y : Int32) : Int32 := match nn x 20 with
  | none => bad
  | some s => match nn y 2 with
    | none => bad
    | some w => if w = 0 then cuf (aC A) s else cuw (aC A) s
theorem c_cue {σ : qw_M} {A : AS} (h : KC σ A) (x y : Int32) : qw_Mt qw_tw wC my_X11_cue [.ref 0, .int x, .int y] σ (post (do_cue A x y, A)) := by
  refine mt_X11_cue rfl (ev_X11_cue [] 100 ?_)
  unfold do_cue
  refine ⟨trivial, _, m_isBelow x (n := 20) (by decide), fun z σ1 _ ⟨k1, k2⟩ => ?_⟩
  have k1 := k1.symm
  subst k1
  cases k2
  cases hs : nn x 20 with
  | none =>
    refine vt rfl ?_
    exact ⟨h, rfl⟩
  | some s =>
    obtain ⟨bs, rfl⟩ := nn_some (by decide) hs
    refine vf n10 ?_
    refine ⟨trivial, _, m_isBelow y (n := 2) (by decide), fun z σ1 _ ⟨k1, k2⟩ => ?_⟩
    have k1 := k1.symm
    subst k1
    cases k2
    cases hw : nn y 2 with
    | none =>
      refine vnf rfl ?_
      exact ⟨h, rfl⟩
    | some w =>
      obtain ⟨bw, rfl⟩ := nn_some (by decide) hw
      refine vnt n10 ?_
      by_cases w0 : w = 0
      · subst w0
        refine vnf rfl ?_
        refine ⟨trivial, _, m_figureOf (Or.inl rfl) h.2.2.1.2.1 bs, fun z σ1 ⟨k1, k2⟩ => ?_⟩
        have k1 := k1.symm
        subst k1
        cases k2
        exact ⟨h, rfl⟩
      · refine vnt (nI_ne0 (n := w) (by omega) (by omega)) ?_
        refine ⟨trivial, _, m_whitherOf (Or.inl rfl) h.2.2.1.2.1 bs, fun z σ1 ⟨k1, k2⟩ => ?_⟩
        have k1 := k1.symm
        subst k1
        cases k2
        dsimp only
        rw [if_neg w0]
        exact ⟨h, rfl⟩
def do_picture (A : AS) (x : Int32) : Int32 := match nn x 32 with
  | none => bad
  | some c => obi (aP A c)
theorem c_picture {σ : qw_M} {A : AS} (h : KC σ A) (x : Int32) : qw_Mt qw_tw wC my_X11_picture [.ref 0, .int x] σ (post (do_picture A x, A)) := by
  refine mt_X11_picture rfl (ev_X11_picture [] 100 ?_)
  unfold do_picture
  refine ⟨trivial, _, m_isBelow x (n := 32) (by decide), fun z σ1 _ ⟨k1, k2⟩ => ?_⟩
  have k1 := k1.symm
  subst k1
  cases k2
  cases hc : nn x 32 with
  | none =>
    refine vt rfl ?_
    exact ⟨h, rfl⟩
  | some c =>
    obtain ⟨bc, rfl⟩ := nn_some (by decide) hc
    refine vf n10 ?_
    refine ⟨trivial, _, m_picLightOf h.2.2.1.2.2.1 bc, fun z σ1 ⟨k1, k2⟩ => ?_⟩
    have k1 := k1.symm
    subst k1
    have k2 : z = obi (aP A c) := by
      have k2 := Value.int.inj (Option.some.inj k2)
      rw [k2]
      cases aP A c <;> rfl
    subst k2
    exact ⟨h, rfl⟩
def do_lamp (A : AS) (x : Int32) : Int32 × AS := match nn x 32 with
  | none => (bad, A)
  | some v => (nI (aL A), slp A v)
theorem c_lamp {σ : qw_M} {A : AS} (h : KC σ A) (x : Int32) : qw_Mt qw_tw wC my_X11_lamp [.ref 0, .int x] σ (post (do_lamp A x)) := by
  refine mt_X11_lamp rfl (ev_X11_lamp [] 100 ?_)
  unfold do_lamp
  refine ⟨trivial, _, m_isBelow x (n := 32) (by decide), fun z σ1 _ ⟨k1, k2⟩ => ?_⟩
  have k1 := k1.symm
  subst k1
  cases k2
  cases hv : nn x 32 with
  | none =>
    refine vnf rfl ?_
    exact ⟨h, rfl⟩
  | some v =>
    obtain ⟨bv, rfl⟩ := nn_some (by decide) hv
    refine vnt n10 ?_
    exact ⟨KC_lp h bv, congrArg (fun z => some (Value.int z)) h.2.2.1.2.2.2.2.1.2⟩
theorem fk_add {σ : qw_M} {n : Nat} {a : Nat → Nat} (h : fk σ n a) (hn : n < 8) {s : Nat} (hs : s < 20) : fk (qw_pi (qw_pi σ (19 + 1) n (nI s)) 19 1 (nI (n + 1))) (n + 1) (fun i => if i = n then s else a i) := by
  refine ⟨by omega, pi_eq, fun i hi => ?_⟩
  rw [pi_off (c := 20) (k := 19) (by decide), pi_at]
  dsimp only
  by_cases e : i = n
  · rw [if_pos e, if_pos e]
    exact ⟨hs, rfl⟩
  · rw [if_neg e, if_neg e]
    exact h.2.2 i (by omega)
def do_flicker (A : AS) (x : Int32) : Int32 × AS := match nn x 20 with
  | none => (bad, A)
  | some s => if aKn A = 8 then (full, A) else (nI (aKn A + 1), sfl A (aKn A + 1) (fun i => if i = aKn A then s else aKa A i))
theorem c_flicker {σ : qw_M} {A : AS} (h : KC σ A) (x : Int32) : qw_Mt qw_tw wC my_X11_flicker [.ref 0, .int x] σ (post (do_flicker A x)) := by
  refine mt_X11_flicker rfl (ev_X11_flicker [] 100 ?_)
  unfold do_flicker
  obtain ⟨q1, q2, q3⟩ := h.2.2.1.2.2.2.1
  refine ⟨trivial, _, m_isBelow x (n := 20) (by decide), fun z σ1 _ ⟨k1, k2⟩ => ?_⟩
  have k1 := k1.symm
  subst k1
  cases k2
  cases hs : nn x 20 with
  | none =>
    refine vnf rfl ?_
    exact ⟨h, rfl⟩
  | some s =>
    obtain ⟨bs, rfl⟩ := nn_some (by decide) hs
    refine vnt n10 ?_
    refine ⟨trivial, _, m_isFull (k := 19) (N := 8) (by unfold qr_row; omega) q2 q1, fun z σ1 _ ⟨k1, k2⟩ => ?_⟩
    have k1 := k1.symm
    subst k1
    rcases k2 with ⟨c1, k2⟩ | ⟨c1, k2⟩
    · cases k2
      refine vt rfl ?_
      refine ⟨trivial, _, m_add (k := 19) (N := 8) (by unfold qr_row; omega) q2 c1 _, fun z σ1 ⟨k1, k2⟩ => ?_⟩
      cases k2
      dsimp only
      rw [if_neg (by omega)]
      rw [k1]
      exact ⟨KC_fl h ((fr.pi (by decide)).tr (fr.pi (by decide))) (fk_add h.2.2.1.2.2.2.1 c1 bs), rfl⟩
    · cases k2
      refine vf n10 ?_
      dsimp only
      rw [if_pos c1]
      exact ⟨h, rfl⟩
def do_back (A : AS) : Int32 × AS := if aKn A = 0 then (nott, A) else (nI (aKn A - 1), sfl A (aKn A - 1) (aKa A))
theorem c_back {σ : qw_M} {A : AS} (h : KC σ A) : qw_Mt qw_tw wC my_X11_back [.ref 0] σ (post (do_back A)) := by
  refine mt_X11_back rfl (ev_X11_back [] 100 ?_)
  unfold do_back
  obtain ⟨q1, q2, q3⟩ := h.2.2.1.2.2.2.1
  by_cases h0 : aKn A = 0
  · refine vnf (q2.trans (by rw [h0]; rfl)) ?_
    rw [if_pos h0]
    exact ⟨h, rfl⟩
  · refine vnt (fun z => h0 (nI_i (b := 0) (by omega) (by omega) (q2.symm.trans z))) ?_
    rw [if_neg h0]
    refine ⟨trivial, _, m_drop (k := 19) (N := 8) (by unfold qr_row; omega) q2 q1, fun z σ1 k12 => ?_⟩
    rcases k12 with ⟨c0, -, -⟩ | ⟨j, c0, k1, k2⟩
    · exact absurd c0 h0
    · cases k2
      have ej : aKn A - 1 = j := by omega
      rw [ej, k1]
      refine ⟨KC_fl h (fr.pi (by decide)) ⟨by omega, pi_eq, fun i hi => ?_⟩, rfl⟩
      rw [pi_off (c := 20) (k := 19) (by decide)]
      exact q3 i (by omega)
def do_light (A : AS) (x y : Int32) : Int32 := match nn x 20 with
  | none => bad
  | some s => match nn y 32 with
    | none => bad
    | some c => nI (lgS (aT A) (aC A) (aKn A) (aKa A) (aL A) s c)
theorem c_light {σ : qw_M} {A : AS} (h : KC σ A) (x y : Int32) : qw_Mt qw_tw wC my_X11_light [.ref 0, .int x, .int y] σ (post (do_light A x y, A)) := by
  refine mt_X11_light rfl (ev_X11_light [] 100 ?_)
  unfold do_light
  refine ⟨trivial, _, m_isBelow x (n := 20) (by decide), fun z σ1 _ ⟨k1, k2⟩ => ?_⟩
  have k1 := k1.symm
  subst k1
  cases k2
  cases hs : nn x 20 with
  | none =>
    refine vt rfl ?_
    exact ⟨h, rfl⟩
  | some s =>
    obtain ⟨bs, rfl⟩ := nn_some (by decide) hs
    refine vf n10 ?_
    refine ⟨trivial, _, m_isBelow y (n := 32) (by decide), fun z σ1 _ ⟨k1, k2⟩ => ?_⟩
    have k1 := k1.symm
    subst k1
    cases k2
    cases hc : nn y 32 with
    | none =>
      refine vnf rfl ?_
      exact ⟨h, rfl⟩
    | some c =>
      obtain ⟨bc, rfl⟩ := nn_some (by decide) hc
      refine vnt n10 ?_
      refine ⟨trivial, _, m_lightUp h.2.2.1 bs, fun σ1 ⟨f1, h1, _, _, g1⟩ => ?_⟩
      refine ⟨trivial, _, m_lightOf (Or.inr (Or.inl rfl)) g1 bc, fun z σ1 ⟨k1, k2⟩ => ?_⟩
      have k1 := k1.symm
      subst k1
      cases k2
      exact ⟨KCfrs h f1 h1, rfl⟩
/-- the number with these bits -/
def bI (f : Nat → Bool) : Int32 := nI (bN f 32)
theorem bI_eq {x : Int32} {f : Nat → Bool} (h : ∀ i, i < 32 → bt x i = f i) : x = bI f := by
  apply b_ext
  intro i hi
  rw [h i hi]
  unfold bI
  rw [bt_nI hi, bN_tb, decide_eq_true hi]
  rfl
theorem fst_u {f : Nat → Bool} {N : Nat} {x y : Int32} (h : fst f N x) (h2 : fst f N y) : x = y := by
  rcases h with ⟨i, a1, a2, a3, a4⟩ | ⟨a1, a2⟩ <;> rcases h2 with ⟨j, b1, b2, b3, b4⟩ | ⟨b1, b2⟩
  · have : i = j := by
      rcases Nat.lt_trichotomy i j with q | q | q
      · rw [b3 i q] at a2; cases a2
      · exact q
      · rw [a3 j q] at b2; cases b2
    rw [a4, b4, this]
  · rw [b1 i a1] at a2; cases a2
  · rw [a1 j b1] at b2; cases b2
  · rw [a2, b2]
noncomputable def the (R : Int32 → Prop) : Int32 := Classical.epsilon R
theorem the_eq {R : Int32 → Prop} {x : Int32} (h : R x) (u : ∀ y, R y → y = x) : the R = x := u _ (Classical.epsilon_spec ⟨x, h⟩)
theorem the_fst {f : Nat → Bool} {N : Nat} {x : Int32} (h : fst f N x) : x = the (fst f N) := (the_eq h (fun _ hy => fst_u hy h)).symm
def do_covers (A : AS) (x y : Int32) : Int32 := match nn x 20 with
  | none => bad
  | some s => match nn y 32 with
    | none => bad
    | some c => bI (fun i => decide (i < tF (aT A)) && cv (aT A) (aL A) (ps (aT A) (aC A) s).1 (ps (aT A) (aC A) s).2 i c)
theorem c_covers {σ : qw_M} {A : AS} (h : KC σ A) (x y : Int32) : qw_Mt qw_tw wC my_X11_covers [.ref 0, .int x, .int y] σ (post (do_covers A x y, A)) := by
  refine mt_X11_covers rfl (ev_X11_covers [] 100 ?_)
  unfold do_covers
  refine ⟨trivial, _, m_isBelow x (n := 20) (by decide), fun z σ1 _ ⟨k1, k2⟩ => ?_⟩
  have k1 := k1.symm
  subst k1
  cases k2
  cases hs : nn x 20 with
  | none =>
    refine vt rfl ?_
    exact ⟨h, rfl⟩
  | some s =>
    obtain ⟨bs, rfl⟩ := nn_some (by decide) hs
    refine vf n10 ?_
    refine ⟨trivial, _, m_isBelow y (n := 32) (by decide), fun z σ1 _ ⟨k1, k2⟩ => ?_⟩
    have k1 := k1.symm
    subst k1
    cases k2
    cases hc : nn y 32 with
    | none =>
      refine vt rfl ?_
      exact ⟨h, rfl⟩
    | some c =>
      obtain ⟨bc, rfl⟩ := nn_some (by decide) hc
      refine vf n10 ?_
      refine ⟨trivial, _, m_coversOf h.2.2.1 bs bc, fun z σ1 ⟨f1, h1, y, k2, hy⟩ => ?_⟩
      cases k2
      exact ⟨KCfrs h f1 h1, congrArg (fun z => some (Value.int z)) (bI_eq hy)⟩
noncomputable def wat (T : TT) (L : Nat) (x : (Nat → Nat) × (Nat → Nat)) (f w : Nat) : Int32 := if w = 0 then nI (x.1 f) else if w = 1 then nI (x.2 f) else if w = 2 then nI (cnt (cv T L x.1 x.2 f) 32) else the (fst (cv T L x.1 x.2 f) 32)
theorem wat_eq {T : TT} {L : Nat} {x : (Nat → Nat) × (Nat → Nat)} {f w : Nat} {r : Int32} (h : wab T L x f w r) : r = wat T L x f w := by
  unfold wat
  rcases h with ⟨rfl, h⟩ | ⟨rfl, h⟩ | ⟨rfl, h⟩ | ⟨rfl, h⟩
  · exact h
  · exact h
  · exact h
  · exact the_fst h
noncomputable def do_at (A : AS) (x y w : Int32) : Int32 := match nn x 20 with
  | none => bad
  | some s => match nn y (tF (aT A)) with
    | none => bad
    | some f => match nn w 4 with
      | none => bad
      | some k => wat (aT A) (aL A) (ps (aT A) (aC A) s) f k
theorem c_at {σ : qw_M} {A : AS} (h : KC σ A) (x y w : Int32) : qw_Mt qw_tw wC my_X11_at [.ref 0, .int x, .int y, .int w] σ (post (do_at A x y w, A)) := by
  refine mt_X11_at rfl (ev_X11_at [] 100 ?_)
  unfold do_at
  refine ⟨trivial, _, m_isBelow x (n := 20) (by decide), fun z σ1 _ ⟨k1, k2⟩ => ?_⟩
  have k1 := k1.symm
  subst k1
  cases k2
  cases hs : nn x 20 with
  | none =>
    refine vt rfl ?_
    exact ⟨h, rfl⟩
  | some s =>
    obtain ⟨bs, rfl⟩ := nn_some (by decide) hs
    refine vf n10 ?_
    refine ⟨trivial, _, m_hasn h.2.2.1.1 y, fun z σ1 _ ⟨k1, k2⟩ => ?_⟩
    have k1 := k1.symm
    subst k1
    cases k2
    cases hf : nn y (tF (aT A)) with
    | none =>
      refine vt rfl ?_
      exact ⟨h, rfl⟩
    | some f =>
      obtain ⟨bf, rfl⟩ := nn_some (by have := h.2.2.1.1.1.1; omega) hf
      refine vf n10 ?_
      refine ⟨trivial, _, m_isBelow w (n := 4) (by decide), fun z σ1 _ ⟨k1, k2⟩ => ?_⟩
      have k1 := k1.symm
      subst k1
      cases k2
      cases hk : nn w 4 with
      | none =>
        refine vnf rfl ?_
        exact ⟨h, rfl⟩
      | some k =>
        obtain ⟨bk, rfl⟩ := nn_some (by decide) hk
        refine vnt n10 ?_
        refine ⟨trivial, _, m_whereabouts h.2.2.1 bs bf bk, fun z σ1 ⟨f1, h1, y, k2, hy⟩ => ?_⟩
        cases k2
        exact ⟨KCfrs h f1 h1, congrArg (fun z => some (Value.int z)) (wat_eq hy)⟩
def scf (A : AS) (s : Nat) : Nat := pfa (aP A) (lgS (aT A) (aC A) (aKn A) (aKa A) (aL A) s)
def scd (A : AS) (s : Nat) : Nat := cnt (fun c => lgS (aT A) (aC A) (aKn A) (aKa A) (aL A) s c == 0) 32
def do_screen (A : AS) (x y : Int32) : Int32 := match nn x 20 with
  | none => bad
  | some s => match nn y 2 with
    | none => bad
    | some w => if w = 0 then nI (scf A s) else nI (scd A s)
theorem c_screen {σ : qw_M} {A : AS} (h : KC σ A) (x y : Int32) : qw_Mt qw_tw wC my_X11_screen [.ref 0, .int x, .int y] σ (post (do_screen A x y, A)) := by
  refine mt_X11_screen rfl (ev_X11_screen [] 100 ?_)
  unfold do_screen
  refine ⟨trivial, _, m_isBelow x (n := 20) (by decide), fun z σ1 _ ⟨k1, k2⟩ => ?_⟩
  have k1 := k1.symm
  subst k1
  cases k2
  cases hs : nn x 20 with
  | none =>
    refine vt rfl ?_
    exact ⟨h, rfl⟩
  | some s =>
    obtain ⟨bs, rfl⟩ := nn_some (by decide) hs
    refine vf n10 ?_
    refine ⟨trivial, _, m_isBelow y (n := 2) (by decide), fun z σ1 _ ⟨k1, k2⟩ => ?_⟩
    have k1 := k1.symm
    subst k1
    cases k2
    cases hw : nn y 2 with
    | none =>
      refine vnf rfl ?_
      exact ⟨h, rfl⟩
    | some w =>
      obtain ⟨bw, rfl⟩ := nn_some (by decide) hw
      refine vnt n10 ?_
      refine ⟨trivial, _, m_lightUp h.2.2.1 bs, fun σ1 ⟨f1, h1, _, _, g1⟩ => ?_⟩
      by_cases w0 : w = 0
      · subst w0
        refine vnf rfl ?_
        refine ⟨trivial, _, m_falseNow h1.2.2.1 g1, fun z σ1 ⟨k1, k2⟩ => ?_⟩
        have k1 := k1.symm
        subst k1
        cases k2
        exact ⟨KCfrs h f1 h1, rfl⟩
      · refine vnt (nI_ne0 (n := w) (by omega) (by omega)) ?_
        refine ⟨trivial, _, m_dark (Or.inr (Or.inl rfl)) g1, fun z σ1 ⟨k1, k2⟩ => ?_⟩
        have k1 := k1.symm
        subst k1
        cases k2
        dsimp only
        rw [if_neg w0]
        exact ⟨KCfrs h f1 h1, rfl⟩
def shn (A : AS) (i : Nat) : Bool := decide (i < 20) && psh (aP A) (lgS (aT A) (aC A) (aKn A) (aKa A) (aL A) i)
noncomputable def do_shown (A : AS) (y : Int32) : Int32 := match nn y 2 with
  | none => bad
  | some w => if w = 0 then the (fst (shn A) 32) else nI (cnt (shn A) 32)
theorem c_shown {σ : qw_M} {A : AS} (h : KC σ A) (y : Int32) : qw_Mt qw_tw wC my_X11_shown [.ref 0, .int y] σ (post (do_shown A y, A)) := by
  refine mt_X11_shown rfl (ev_X11_shown [] 100 ?_)
  unfold do_shown
  refine ⟨trivial, _, m_isBelow y (n := 2) (by decide), fun z σ1 _ ⟨k1, k2⟩ => ?_⟩
  have k1 := k1.symm
  subst k1
  cases k2
  cases hw : nn y 2 with
  | none =>
    refine vnf rfl ?_
    exact ⟨h, rfl⟩
  | some w =>
    obtain ⟨bw, rfl⟩ := nn_some (by decide) hw
    refine vnt n10 ?_
    refine ⟨trivial, _, m_shownSteps h.2.2.1 (Or.inl rfl) h.2.2.1.2.1, fun z σ1 ⟨f1, h1, _, y, k2, hy⟩ => ?_⟩
    cases k2
    by_cases w0 : w = 0
    · subst w0
      refine vnf rfl ?_
      refine ⟨trivial, _, m_leastBit _, fun z σ2 ⟨k1, y2, k2, hf⟩ => ?_⟩
      have k1 := k1.symm
      subst k1
      cases k2
      exact ⟨KCfrs h f1 h1, congrArg (fun z => some (Value.int z)) (the_fst (fst_congr hf (fun i hi => (hy i hi).symm)))⟩
    · refine vnt (nI_ne0 (n := w) (by omega) (by omega)) ?_
      refine ⟨trivial, _, m_bitCount _, fun z σ2 ⟨k1, k2⟩ => ?_⟩
      have k1 := k1.symm
      subst k1
      cases k2
      dsimp only
      rw [if_neg w0, cnt_congr hy]
      exact ⟨KCfrs h f1 h1, rfl⟩
theorem ftc_u {T : TT} {C : CC} {w : Nat} {x y : Int32} (h : ftc T C w x) (h2 : ftc T C w y) : y = x := by
  rcases h with ⟨s, a, b, a1, a2, a3, a4, a5, a6, a7⟩ | ⟨a1, a2⟩ <;> rcases h2 with ⟨s', a', b', b1, b2, b3, b4, b5, b6, b7⟩ | ⟨b1, b2⟩
  · have es : s = s' := by
      rcases Nat.lt_trichotomy s s' with q | q | q
      · rw [b6 s a b q a2 a3] at a4; cases a4
      · exact q
      · rw [a6 s' a' b' q b2 b3] at b4; cases b4
    subst es
    have ea : a = a' ∧ b = b' := by
      have l1 : ¬ (a < a' ∨ (a = a' ∧ b < b')) := fun q => by rw [b5 a b a2 a3 q] at a4; cases a4
      have l2 : ¬ (a' < a ∨ (a' = a ∧ b' < b)) := fun q => by rw [a5 a' b' b2 b3 q] at b4; cases b4
      omega
    rw [a7, b7, ea.1, ea.2]
  · rw [b1 s a b a1 a2 a3] at a4; cases a4
  · rw [a1 s' a' b' b1 b2 b3] at b4; cases b4
  · rw [a2, b2]
theorem the_ftc {T : TT} {C : CC} {w : Nat} {x : Int32} (h : ftc T C w x) : x = the (ftc T C w) := (the_eq h (fun _ hy => ftc_u h hy)).symm
noncomputable def do_touched (A : AS) (y : Int32) : Int32 := match nn y 3 with
  | none => bad
  | some w => the (ftc (aT A) (aC A) w)
theorem c_touched {σ : qw_M} {A : AS} (h : KC σ A) (y : Int32) : qw_Mt qw_tw wC my_X11_touched [.ref 0, .int y] σ (post (do_touched A y, A)) := by
  refine mt_X11_touched rfl (ev_X11_touched [] 100 ?_)
  unfold do_touched
  refine ⟨trivial, _, m_isBelow y (n := 3) (by decide), fun z σ1 _ ⟨k1, k2⟩ => ?_⟩
  have k1 := k1.symm
  subst k1
  cases k2
  cases hw : nn y 3 with
  | none =>
    refine vt rfl ?_
    exact ⟨h, rfl⟩
  | some w =>
    obtain ⟨bw, rfl⟩ := nn_some (by decide) hw
    refine vf n10 ?_
    refine ⟨trivial, _, m_firstTouch h.2.2.1 bw, fun z σ1 ⟨f1, h1, y, k2, hy⟩ => ?_⟩
    cases k2
    exact ⟨KCfrs h f1 h1, congrArg (fun z => some (Value.int z)) (the_ftc hy)⟩
def do_darkest (A : AS) : Int32 := dkb (dks (dkn (aT A) (aC A) (aL A)) (fun s => isx (aKa A) s (aKn A)) 20)
theorem c_darkest {σ : qw_M} {A : AS} (h : KC σ A) : qw_Mt qw_tw wC my_X11_darkest [.ref 0] σ (post (do_darkest A, A)) := by
  refine mt_X11_darkest rfl (ev_X11_darkest [] 100 ?_)
  refine ⟨trivial, _, m_darkestStep h.2.2.1, fun z σ1 ⟨f1, h1, k2⟩ => ?_⟩
  cases k2
  exact ⟨KCfrs h f1 h1, rfl⟩
