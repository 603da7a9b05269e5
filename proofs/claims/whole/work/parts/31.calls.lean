/-! The calls, one by one -/
abbrev full : Int32 := Int32.ofInt (Int.negSucc 3)
abbrev nott : Int32 := Int32.ofInt (Int.negSucc 2)
theorem n10 : ¬ nI 1 = 0 := by decide
/-- answered so, and then so -/
def post (z : Int32 × AS) : Option Value → qw_M → Prop := fun r σ' => KC σ' z.2 ∧ r = some (.int z.1)
theorem m_textOf {t : Nat} (ht : t < 3) {σ : qw_M} : qw_Mt qw_tw wC my_X11_textOf [.ref 0, .int (nI t)] σ (fun r σ' => σ' = σ ∧ r = some (.ref (2 * t + 1))) := by
  refine mt_X11_textOf rfl (ev_X11_textOf [] 100 ?_)
  have ht3 : t = 0 ∨ t = 1 ∨ t = 2 := by omega
  rcases ht3 with rfl | rfl | rfl
  · refine vnf rfl ?_
    exact ⟨rfl, rfl⟩
  · refine vnt (by decide) ?_
    refine vnf rfl ?_
    exact ⟨rfl, rfl⟩
  · refine vnt (by decide) ?_
    refine vnt (by decide) ?_
    refine vnf rfl ?_
    exact ⟨rfl, rfl⟩
theorem m_textOf0 {x : Int32} (h : ∀ j, j < 3 → x ≠ nI j) {σ : qw_M} : qw_Mt qw_tw wC my_X11_textOf [.ref 0, .int x] σ (fun r σ' => σ' = σ ∧ r = some .null) := by
  refine mt_X11_textOf rfl (ev_X11_textOf [] 100 ?_)
  refine vnt (h 0 (by omega)) ?_
  refine vnt (h 1 (by omega)) ?_
  refine vnt (h 2 (by omega)) ?_
  exact ⟨rfl, rfl⟩
theorem qr_t {t : Nat} (ht : t < 3) : qr_row (2 * t + 1) (cap t) := by
  unfold qr_row cap
  have ht3 : t = 0 ∨ t = 1 ∨ t = 2 := by omega
  rcases ht3 with rfl | rfl | rfl <;> simp
def do_type (A : AS) (x y : Int32) : Int32 × AS := match nn x 3 with
  | none => (bad, A)
  | some t => match nn y 256 with
    | none => (bad, A)
    | some b => if aN A t = cap t then (full, A) else (nI (aN A t + 1), stx A t (aN A t + 1) (fun i => if i = aN A t then b else aB A t i))
theorem c_type {σ : qw_M} {A : AS} (h : KC σ A) (x y : Int32) : qw_Mt qw_tw wC my_X11_type [.ref 0, .int x, .int y] σ (post (do_type A x y)) := by
  refine mt_X11_type rfl (ev_X11_type [23] 100 ?_)
  unfold do_type
  cases hx : nn x 3 with
  | none =>
    refine ⟨trivial, _, m_textOf0 (nn_none (by decide) hx), fun σ1 ⟨k1, k2⟩ => ?_, fun k σ1 ⟨k1, k2⟩ => by cases k2⟩
    have k1 := k1.symm
    subst k1
    exact ⟨h, rfl⟩
  | some t =>
    obtain ⟨ht, rfl⟩ := nn_some (by decide) hx
    have ht3 : t = 0 ∨ t = 1 ∨ t = 2 := by omega
    rcases ht3 with rfl | rfl | rfl
    · refine ⟨trivial, _, m_textOf (t := 0) ht, And.intro (fun σ1 k12 => nomatch k12.2) (fun k σ1 k12 => ?_)⟩
      obtain ⟨k1, k2⟩ := k12
      have k1 := k1.symm
      subst k1
      cases k2
      obtain ⟨hc, hn, hB⟩ := h.1 0 ht
      have q := qr_t (t := 0) ht
      have qc := qr_cap q
      refine ⟨trivial, _, m_isBelow y (n := 256) (by decide), fun z σ1 _ ⟨k1, k2⟩ => ?_⟩
      have k1 := k1.symm
      subst k1
      cases k2
      cases hy : nn y 256 with
      | none =>
        refine vnf rfl ?_
        exact ⟨h, rfl⟩
      | some b =>
        obtain ⟨hb, rfl⟩ := nn_some (by decide) hy
        refine vnt n10 ?_
        refine ev_X11_type [33] 100 ?_
        refine ⟨trivial, _, m_isFull q hn hc, fun z σ1 _ ⟨k1, k2⟩ => ?_⟩
        have k1 := k1.symm
        subst k1
        rcases k2 with ⟨c1, k2⟩ | ⟨c1, k2⟩
        · cases k2
          refine vt rfl ?_
          dsimp only
          rw [if_neg (by omega)]
          refine ev_X11_type [39] 100 ?_
          refine ⟨trivial, _, m_add q hn c1 _, fun z σ1 ⟨k1, k2⟩ => ?_⟩
          cases k2
          refine ev_X11_type [44] 100 ?_
          refine ⟨trivial, _, m_reparse (σ1 := σ1) h ht (n := aN A 0 + 1) (B := fun i => if i = aN A 0 then b else aB A 0 i) ?_ ⟨?_, fun i hi => ?_⟩ (by omega), fun σ2 k3 => ?_⟩
          · rw [k1]
            exact (fr.pi (by simp)).tr (fr.pi (by simp))
          · rw [k1, pi_eq]
          · rw [k1, pi_off (by omega), pi_at]
            dsimp only
            by_cases e : i = aN A 0
            · rw [if_pos e, if_pos e]
              exact ⟨hb, rfl⟩
            · rw [if_neg e, if_neg e]
              exact hB i (by omega)
          · have hn2 : (σ2 (2 * 0 + 1)).1 1 = nI (aN A 0 + 1) := (k3.1 0 ht).2.1
            refine ev_X11_type [] 100 ?_
            exact ⟨k3, congrArg (fun z => some (Value.int z)) hn2⟩
        · cases k2
          refine vf n10 ?_
          dsimp only
          rw [if_pos c1]
          exact ⟨h, rfl⟩
    · refine ⟨trivial, _, m_textOf (t := 1) ht, And.intro (fun σ1 k12 => nomatch k12.2) (fun k σ1 k12 => ?_)⟩
      obtain ⟨k1, k2⟩ := k12
      have k1 := k1.symm
      subst k1
      cases k2
      obtain ⟨hc, hn, hB⟩ := h.1 1 ht
      have q := qr_t (t := 1) ht
      have qc := qr_cap q
      refine ⟨trivial, _, m_isBelow y (n := 256) (by decide), fun z σ1 _ ⟨k1, k2⟩ => ?_⟩
      have k1 := k1.symm
      subst k1
      cases k2
      cases hy : nn y 256 with
      | none =>
        refine vnf rfl ?_
        exact ⟨h, rfl⟩
      | some b =>
        obtain ⟨hb, rfl⟩ := nn_some (by decide) hy
        refine vnt n10 ?_
        refine ev_X11_type [33] 100 ?_
        refine ⟨trivial, _, m_isFull q hn hc, fun z σ1 _ ⟨k1, k2⟩ => ?_⟩
        have k1 := k1.symm
        subst k1
        rcases k2 with ⟨c1, k2⟩ | ⟨c1, k2⟩
        · cases k2
          refine vt rfl ?_
          dsimp only
          rw [if_neg (by omega)]
          refine ev_X11_type [39] 100 ?_
          refine ⟨trivial, _, m_add q hn c1 _, fun z σ1 ⟨k1, k2⟩ => ?_⟩
          cases k2
          refine ev_X11_type [44] 100 ?_
          refine ⟨trivial, _, m_reparse (σ1 := σ1) h ht (n := aN A 1 + 1) (B := fun i => if i = aN A 1 then b else aB A 1 i) ?_ ⟨?_, fun i hi => ?_⟩ (by omega), fun σ2 k3 => ?_⟩
          · rw [k1]
            exact (fr.pi (by simp)).tr (fr.pi (by simp))
          · rw [k1, pi_eq]
          · rw [k1, pi_off (by omega), pi_at]
            dsimp only
            by_cases e : i = aN A 1
            · rw [if_pos e, if_pos e]
              exact ⟨hb, rfl⟩
            · rw [if_neg e, if_neg e]
              exact hB i (by omega)
          · have hn2 : (σ2 (2 * 1 + 1)).1 1 = nI (aN A 1 + 1) := (k3.1 1 ht).2.1
            refine ev_X11_type [] 100 ?_
            exact ⟨k3, congrArg (fun z => some (Value.int z)) hn2⟩
        · cases k2
          refine vf n10 ?_
          dsimp only
          rw [if_pos c1]
          exact ⟨h, rfl⟩
    · refine ⟨trivial, _, m_textOf (t := 2) ht, And.intro (fun σ1 k12 => nomatch k12.2) (fun k σ1 k12 => ?_)⟩
      obtain ⟨k1, k2⟩ := k12
      have k1 := k1.symm
      subst k1
      cases k2
      obtain ⟨hc, hn, hB⟩ := h.1 2 ht
      have q := qr_t (t := 2) ht
      have qc := qr_cap q
      refine ⟨trivial, _, m_isBelow y (n := 256) (by decide), fun z σ1 _ ⟨k1, k2⟩ => ?_⟩
      have k1 := k1.symm
      subst k1
      cases k2
      cases hy : nn y 256 with
      | none =>
        refine vnf rfl ?_
        exact ⟨h, rfl⟩
      | some b =>
        obtain ⟨hb, rfl⟩ := nn_some (by decide) hy
        refine vnt n10 ?_
        refine ev_X11_type [33] 100 ?_
        refine ⟨trivial, _, m_isFull q hn hc, fun z σ1 _ ⟨k1, k2⟩ => ?_⟩
        have k1 := k1.symm
        subst k1
        rcases k2 with ⟨c1, k2⟩ | ⟨c1, k2⟩
        · cases k2
          refine vt rfl ?_
          dsimp only
          rw [if_neg (by omega)]
          refine ev_X11_type [39] 100 ?_
          refine ⟨trivial, _, m_add q hn c1 _, fun z σ1 ⟨k1, k2⟩ => ?_⟩
          cases k2
          refine ev_X11_type [44] 100 ?_
          refine ⟨trivial, _, m_reparse (σ1 := σ1) h ht (n := aN A 2 + 1) (B := fun i => if i = aN A 2 then b else aB A 2 i) ?_ ⟨?_, fun i hi => ?_⟩ (by omega), fun σ2 k3 => ?_⟩
          · rw [k1]
            exact (fr.pi (by simp)).tr (fr.pi (by simp))
          · rw [k1, pi_eq]
          · rw [k1, pi_off (by omega), pi_at]
            dsimp only
            by_cases e : i = aN A 2
            · rw [if_pos e, if_pos e]
              exact ⟨hb, rfl⟩
            · rw [if_neg e, if_neg e]
              exact hB i (by omega)
          · have hn2 : (σ2 (2 * 2 + 1)).1 1 = nI (aN A 2 + 1) := (k3.1 2 ht).2.1
            refine ev_X11_type [] 100 ?_
            exact ⟨k3, congrArg (fun z => some (Value.int z)) hn2⟩
        · cases k2
          refine vf n10 ?_
          dsimp only
          rw [if_pos c1]
          exact ⟨h, rfl⟩
def do_wipe (A : AS) (x : Int32) : Int32 × AS := match nn x 3 with
  | none => (bad, A)
  | some t => (nI (aN A t), stx A t 0 (aB A t))
theorem c_wipe {σ : qw_M} {A : AS} (h : KC σ A) (x : Int32) : qw_Mt qw_tw wC my_X11_wipe [.ref 0, .int x] σ (post (do_wipe A x)) := by
  refine mt_X11_wipe rfl (ev_X11_wipe [13] 100 ?_)
  unfold do_wipe
  cases hx : nn x 3 with
  | none =>
    refine ⟨trivial, _, m_textOf0 (nn_none (by decide) hx), fun σ1 ⟨k1, k2⟩ => ?_, fun k σ1 ⟨k1, k2⟩ => by cases k2⟩
    have k1 := k1.symm
    subst k1
    exact ⟨h, rfl⟩
  | some t =>
    obtain ⟨ht, rfl⟩ := nn_some (by decide) hx
    have ht3 : t = 0 ∨ t = 1 ∨ t = 2 := by omega
    rcases ht3 with rfl | rfl | rfl
    · refine ⟨trivial, _, m_textOf (t := 0) ht, And.intro (fun σ1 k12 => nomatch k12.2) (fun k σ1 k12 => ?_)⟩
      obtain ⟨k1, k2⟩ := k12
      have k1 := k1.symm
      subst k1
      cases k2
      obtain ⟨hc, hn, hB⟩ := h.1 0 ht
      have q := qr_t (t := 0) ht
      have qc := qr_cap q
      refine ev_X11_wipe [18] 100 ?_
      refine ⟨trivial, _, m_clear q hn, fun z σ1 ⟨k1, k2⟩ => ?_⟩
      cases k2
      refine ev_X11_wipe [] 100 ?_
      refine ⟨trivial, _, m_reparse (σ1 := σ1) h ht (n := 0) (B := aB A 0) ?_ ⟨?_, fun i hi => absurd hi (Nat.not_lt_zero i)⟩ (Nat.zero_le _), fun σ2 k3 => ?_⟩
      · rw [k1]
        exact fr.pi (by simp)
      · rw [k1, pi_eq]
      · exact ⟨k3, rfl⟩
    · refine ⟨trivial, _, m_textOf (t := 1) ht, And.intro (fun σ1 k12 => nomatch k12.2) (fun k σ1 k12 => ?_)⟩
      obtain ⟨k1, k2⟩ := k12
      have k1 := k1.symm
      subst k1
      cases k2
      obtain ⟨hc, hn, hB⟩ := h.1 1 ht
      have q := qr_t (t := 1) ht
      have qc := qr_cap q
      refine ev_X11_wipe [18] 100 ?_
      refine ⟨trivial, _, m_clear q hn, fun z σ1 ⟨k1, k2⟩ => ?_⟩
      cases k2
      refine ev_X11_wipe [] 100 ?_
      refine ⟨trivial, _, m_reparse (σ1 := σ1) h ht (n := 0) (B := aB A 1) ?_ ⟨?_, fun i hi => absurd hi (Nat.not_lt_zero i)⟩ (Nat.zero_le _), fun σ2 k3 => ?_⟩
      · rw [k1]
        exact fr.pi (by simp)
      · rw [k1, pi_eq]
      · exact ⟨k3, rfl⟩
    · refine ⟨trivial, _, m_textOf (t := 2) ht, And.intro (fun σ1 k12 => nomatch k12.2) (fun k σ1 k12 => ?_)⟩
      obtain ⟨k1, k2⟩ := k12
      have k1 := k1.symm
      subst k1
      cases k2
      obtain ⟨hc, hn, hB⟩ := h.1 2 ht
      have q := qr_t (t := 2) ht
      have qc := qr_cap q
      refine ev_X11_wipe [18] 100 ?_
      refine ⟨trivial, _, m_clear q hn, fun z σ1 ⟨k1, k2⟩ => ?_⟩
      cases k2
      refine ev_X11_wipe [] 100 ?_
      refine ⟨trivial, _, m_reparse (σ1 := σ1) h ht (n := 0) (B := aB A 2) ?_ ⟨?_, fun i hi => absurd hi (Nat.not_lt_zero i)⟩ (Nat.zero_le _), fun σ2 k3 => ?_⟩
      · rw [k1]
        exact fr.pi (by simp)
      · rw [k1, pi_eq]
      · exact ⟨k3, rfl⟩
def do_undo (A : AS) (x : Int32) : Int32 × AS := match nn x 3 with
  | none => (bad, A)
  | some t => if aN A t = 0 then (nott, A) else (nI (aN A t - 1), stx A t (aN A t - 1) (aB A t))
theorem c_undo {σ : qw_M} {A : AS} (h : KC σ A) (x : Int32) : qw_Mt qw_tw wC my_X11_undo [.ref 0, .int x] σ (post (do_undo A x)) := by
  refine mt_X11_undo rfl (ev_X11_undo [13] 100 ?_)
  unfold do_undo
  cases hx : nn x 3 with
  | none =>
    refine ⟨trivial, _, m_textOf0 (nn_none (by decide) hx), fun σ1 ⟨k1, k2⟩ => ?_, fun k σ1 ⟨k1, k2⟩ => by cases k2⟩
    have k1 := k1.symm
    subst k1
    exact ⟨h, rfl⟩
  | some t =>
    obtain ⟨ht, rfl⟩ := nn_some (by decide) hx
    have ht3 : t = 0 ∨ t = 1 ∨ t = 2 := by omega
    rcases ht3 with rfl | rfl | rfl
    · refine ⟨trivial, _, m_textOf (t := 0) ht, And.intro (fun σ1 k12 => nomatch k12.2) (fun k σ1 k12 => ?_)⟩
      obtain ⟨k1, k2⟩ := k12
      have k1 := k1.symm
      subst k1
      cases k2
      obtain ⟨hc, hn, hB⟩ := h.1 0 ht
      have q := qr_t (t := 0) ht
      have qc := qr_cap q
      refine ev_X11_undo [23] 100 ?_
      dsimp only
      by_cases h0 : aN A 0 = 0
      · refine vnf (hn.trans (by rw [h0]; rfl)) ?_
        rw [if_pos h0]
        exact ⟨h, rfl⟩
      · refine vnt (fun z => h0 (nI_i (b := 0) (by omega) (by omega) (hn.symm.trans z))) ?_
        rw [if_neg h0]
        refine ev_X11_undo [28] 100 ?_
        refine ⟨trivial, _, m_drop q hn hc, fun z σ1 k12 => ?_⟩
        rcases k12 with ⟨c0, -, -⟩ | ⟨j, c0, k1, k2⟩
        · exact absurd c0 h0
        · cases k2
          have ej : aN A 0 - 1 = j := by omega
          rw [ej]
          refine ev_X11_undo [33] 100 ?_
          refine ⟨trivial, _, m_reparse (σ1 := σ1) h ht (n := j) (B := aB A 0) ?_ ⟨?_, fun i hi => ?_⟩ (by omega), fun σ2 k3 => ?_⟩
          · rw [k1]
            exact fr.pi (by simp)
          · rw [k1, pi_eq]
          · rw [k1, pi_off (by omega)]
            exact hB i (by omega)
          · have hn2 : (σ2 (2 * 0 + 1)).1 1 = nI j := (k3.1 0 ht).2.1
            refine ev_X11_undo [] 100 ?_
            exact ⟨k3, congrArg (fun z => some (Value.int z)) hn2⟩
    · refine ⟨trivial, _, m_textOf (t := 1) ht, And.intro (fun σ1 k12 => nomatch k12.2) (fun k σ1 k12 => ?_)⟩
      obtain ⟨k1, k2⟩ := k12
      have k1 := k1.symm
      subst k1
      cases k2
      obtain ⟨hc, hn, hB⟩ := h.1 1 ht
      have q := qr_t (t := 1) ht
      have qc := qr_cap q
      refine ev_X11_undo [23] 100 ?_
      dsimp only
      by_cases h0 : aN A 1 = 0
      · refine vnf (hn.trans (by rw [h0]; rfl)) ?_
        rw [if_pos h0]
        exact ⟨h, rfl⟩
      · refine vnt (fun z => h0 (nI_i (b := 0) (by omega) (by omega) (hn.symm.trans z))) ?_
        rw [if_neg h0]
        refine ev_X11_undo [28] 100 ?_
        refine ⟨trivial, _, m_drop q hn hc, fun z σ1 k12 => ?_⟩
        rcases k12 with ⟨c0, -, -⟩ | ⟨j, c0, k1, k2⟩
        · exact absurd c0 h0
        · cases k2
          have ej : aN A 1 - 1 = j := by omega
          rw [ej]
          refine ev_X11_undo [33] 100 ?_
          refine ⟨trivial, _, m_reparse (σ1 := σ1) h ht (n := j) (B := aB A 1) ?_ ⟨?_, fun i hi => ?_⟩ (by omega), fun σ2 k3 => ?_⟩
          · rw [k1]
            exact fr.pi (by simp)
          · rw [k1, pi_eq]
          · rw [k1, pi_off (by omega)]
            exact hB i (by omega)
          · have hn2 : (σ2 (2 * 1 + 1)).1 1 = nI j := (k3.1 1 ht).2.1
            refine ev_X11_undo [] 100 ?_
            exact ⟨k3, congrArg (fun z => some (Value.int z)) hn2⟩
    · refine ⟨trivial, _, m_textOf (t := 2) ht, And.intro (fun σ1 k12 => nomatch k12.2) (fun k σ1 k12 => ?_)⟩
      obtain ⟨k1, k2⟩ := k12
      have k1 := k1.symm
      subst k1
      cases k2
      obtain ⟨hc, hn, hB⟩ := h.1 2 ht
      have q := qr_t (t := 2) ht
      have qc := qr_cap q
      refine ev_X11_undo [23] 100 ?_
      dsimp only
      by_cases h0 : aN A 2 = 0
      · refine vnf (hn.trans (by rw [h0]; rfl)) ?_
        rw [if_pos h0]
        exact ⟨h, rfl⟩
      · refine vnt (fun z => h0 (nI_i (b := 0) (by omega) (by omega) (hn.symm.trans z))) ?_
        rw [if_neg h0]
        refine ev_X11_undo [28] 100 ?_
        refine ⟨trivial, _, m_drop q hn hc, fun z σ1 k12 => ?_⟩
        rcases k12 with ⟨c0, -, -⟩ | ⟨j, c0, k1, k2⟩
        · exact absurd c0 h0
        · cases k2
          have ej : aN A 2 - 1 = j := by omega
          rw [ej]
          refine ev_X11_undo [33] 100 ?_
          refine ⟨trivial, _, m_reparse (σ1 := σ1) h ht (n := j) (B := aB A 2) ?_ ⟨?_, fun i hi => ?_⟩ (by omega), fun σ2 k3 => ?_⟩
          · rw [k1]
            exact fr.pi (by simp)
          · rw [k1, pi_eq]
          · rw [k1, pi_off (by omega)]
            exact hB i (by omega)
          · have hn2 : (σ2 (2 * 2 + 1)).1 1 = nI j := (k3.1 2 ht).2.1
            refine ev_X11_undo [] 100 ?_
            exact ⟨k3, congrArg (fun z => some (Value.int z)) hn2⟩
/-! the other state -/
theorem KCgen {σ σ' : qw_M} {A A' : AS} {l : List Nat} (h : KC σ A) (hf : fr l σ σ') (hl : ∀ k ∈ l, k = 0 ∨ k = 7 ∨ k = 19 ∨ k = 20 ∨ k = 35 ∨ k = 36 ∨ (43 ≤ k ∧ k ≤ 50)) (e1 : A'.1 = A.1) (e2 : A'.2.1 = A.2.1) (hfk : fk σ' (aKn A') (aKa A')) (hL : aL A' < 32 ∧ (σ' 7).1 5 = nI (aL A')) (hsi : si σ' (aSn A') (aSe A')) (hpg : ∀ s, s < 4 → pg σ' (43 + s) (aG A' s)) (hfd : (σ' 0).1 8 = nI (aFd A') ∧ aFd A' ≤ 5) : KC σ' A' := by
  obtain ⟨n', B', r'⟩ := A'
  obtain ⟨n, B, r⟩ := A
  have e1 : n' = n := e1
  have e2 : B' = B := e2
  subst e1
  subst e2
  obtain ⟨h1, ⟨h2, h3, h4⟩, ⟨s1, s2, s3, s4, s5, s6, s7⟩, -⟩ := h
  have no : ∀ k, ¬ (k = 0 ∨ k = 7 ∨ k = 19 ∨ k = 20 ∨ k = 35 ∨ k = 36 ∨ (43 ≤ k ∧ k ≤ 50)) → k ∉ l := fun k hk z => hk (hl k z)
  refine ⟨fun t ht => ⟨(h1 t ht).1, tx.fr (h1 t ht).2 hf (no _ (by omega)) (no _ (by omega))⟩, ⟨?_, ?_, ?_⟩, ⟨?_, ?_, ?_, hfk, hL, ?_, ?_⟩, hsi, hpg, hfd⟩
  · rw [hf 8 (no _ (by omega))]; exact h2
  · rw [hf 14 (no _ (by omega))]; exact h3
  · rw [hf 17 (no _ (by omega))]; exact h4
  · exact s1.fr hf (fun k _ _ => no _ (by omega))
  · exact s2.fr hf (no _ (by omega)) (no _ (by omega)) (no _ (by omega))
  · exact s3.fr hf (no _ (by omega)) (no _ (by omega))
  · exact s6.fr hf (no _ (by omega))
  · exact s7.fr hf ⟨no _ (by omega), no _ (by omega)⟩
def slp (A : AS) (v : Nat) : AS := (A.1, A.2.1, v, A.2.2.2)
def sfl (A : AS) (n : Nat) (a : Nat → Nat) : AS := (A.1, A.2.1, A.2.2.1, (n, a), A.2.2.2.2)
def ssi (A : AS) (n : Nat) (e : Nat → Nat) : AS := (A.1, A.2.1, A.2.2.1, A.2.2.2.1, (n, e), A.2.2.2.2.2)
def spg (A : AS) (s : Nat) (x : PG) : AS := (A.1, A.2.1, A.2.2.1, A.2.2.2.1, A.2.2.2.2.1, (fun u => if u = s then x else aG A u), A.2.2.2.2.2.2)
def sfd (A : AS) (d : Nat) : AS := (A.1, A.2.1, A.2.2.1, A.2.2.2.1, A.2.2.2.2.1, A.2.2.2.2.2.1, d)
theorem KC_lp {σ : qw_M} {A : AS} (h : KC σ A) {v : Nat} (hv : v < 32) : KC (qw_pi σ 7 5 (nI v)) (slp A v) := by
  have hf : fr [7] σ (qw_pi σ 7 5 (nI v)) := fr.pi (by decide)
  obtain ⟨-, -, ⟨-, -, -, s4, -⟩, h6, h7, h8, h9⟩ := id h
  exact KCgen h hf (by simp) rfl rfl (s4.fr hf (by decide) (by decide)) ⟨hv, pi_eq⟩ (h6.fr hf (by decide) (by decide)) (fun s hs => (h7 s hs).fr hf (by simp; omega) (by simp; omega)) ⟨by rw [hf 0 (by decide)]; exact h8, h9⟩
theorem KC_fl {σ σ' : qw_M} {A : AS} (h : KC σ A) (hf : fr [19, 20] σ σ') {n : Nat} {a : Nat → Nat} (hk : fk σ' n a) : KC σ' (sfl A n a) := by
  obtain ⟨-, -, ⟨-, -, -, -, ⟨s5, s6⟩, -⟩, h6, h7, h8, h9⟩ := id h
  exact KCgen h hf (by simp) rfl rfl hk ⟨s5, by rw [hf 7 (by decide)]; exact s6⟩ (h6.fr hf (by decide) (by decide)) (fun s hs => (h7 s hs).fr hf (by simp; omega) (by simp; omega)) ⟨by rw [hf 0 (by decide)]; exact h8, h9⟩
theorem KC_si {σ σ' : qw_M} {A : AS} (h : KC σ A) (hf : fr [35, 36] σ σ') {n : Nat} {e : Nat → Nat} (hk : si σ' n e) : KC σ' (ssi A n e) := by
  obtain ⟨-, -, ⟨-, -, -, s4, ⟨s5, s6⟩, -⟩, h6, h7, h8, h9⟩ := id h
  exact KCgen h hf (by simp) rfl rfl (s4.fr hf (by decide) (by decide)) ⟨s5, by rw [hf 7 (by decide)]; exact s6⟩ hk (fun s hs => (h7 s hs).fr hf (by simp; omega) (by simp; omega)) ⟨by rw [hf 0 (by decide)]; exact h8, h9⟩
theorem KC_pg {σ σ' : qw_M} {A : AS} (h : KC σ A) {s : Nat} (hs : s < 4) (hf : fr [43 + s, 47 + s] σ σ') {x : PG} (hk : pg σ' (43 + s) x) : KC σ' (spg A s x) := by
  obtain ⟨-, -, ⟨-, -, -, s4, ⟨s5, s6⟩, -⟩, h6, h7, h8, h9⟩ := id h
  refine KCgen h hf (by simp; omega) rfl rfl (s4.fr hf (by simp; omega) (by simp; omega)) ⟨s5, by rw [hf 7 (by simp; omega)]; exact s6⟩ (h6.fr hf (by simp; omega) (by simp; omega)) (fun u hu => ?_) ⟨by rw [hf 0 (by simp; omega)]; exact h8, h9⟩
  show pg σ' (43 + u) (if u = s then x else aG A u)
  by_cases e : u = s
  · rw [if_pos e, e]
    exact hk
  · rw [if_neg e]
    exact (h7 u hu).fr hf (by simp; omega) (by simp; omega)
theorem KC_fd {σ : qw_M} {A : AS} (h : KC σ A) {d : Nat} (hd : d ≤ 5) : KC (qw_pi σ 0 8 (nI d)) (sfd A d) := by
  have hf : fr [0] σ (qw_pi σ 0 8 (nI d)) := fr.pi (by decide)
  obtain ⟨-, -, ⟨-, -, -, s4, ⟨s5, s6⟩, -⟩, h6, h7, h8, h9⟩ := id h
  exact KCgen h hf (by simp) rfl rfl (s4.fr hf (by decide) (by decide)) ⟨s5, by rw [hf 7 (by decide)]; exact s6⟩ (h6.fr hf (by decide) (by decide)) (fun s hs => (h7 s hs).fr hf (by simp) (by simp)) ⟨pi_eq, hd⟩
theorem ti_eq {x : Int32} {j : Nat} (hj : j < 2 ^ 31) (h : x.toInt = (j : Int)) : x = nI j := Int32.toInt_inj.mp (by rw [h, nI_toInt hj])
def do_fault (A : AS) (x : Int32) : Int32 := match nn x 3 with
  | none => bad
  | some t => obi (aF A t)
theorem c_fault {σ : qw_M} {A : AS} (h : KC σ A) (x : Int32) : qw_Mt qw_tw wC my_X11_fault [.ref 0, .int x] σ (post (do_fault A x, A)) := by
  obtain ⟨f0, f1, f2⟩ := h.2.1
  refine mt_X11_fault rfl (ev_X11_fault [] 100 ?_)
  unfold do_fault
  cases hx : nn x 3 with
  | none =>
    have hno := nn_none (by decide) hx
    refine And.intro (fun _ => ⟨h, rfl⟩) (And.intro (by decide) (And.intro (fun e => absurd (ti_eq (j := 0) (by decide) e) (hno 0 (by decide))) (And.intro (fun e => absurd (ti_eq (j := 1) (by decide) e) (hno 1 (by decide))) (And.intro (fun e => absurd (ti_eq (j := 2) (by decide) e) (hno 2 (by decide))) trivial))))
  | some t =>
    obtain ⟨ht, rfl⟩ := nn_some (by decide) hx
    have ht3 : t = 0 ∨ t = 1 ∨ t = 2 := by omega
    rcases ht3 with rfl | rfl | rfl
    · exact And.intro (fun e => absurd e (by decide)) (And.intro (by decide) (And.intro (fun _ => ⟨h, congrArg (fun z => some (Value.int z)) f0⟩) (And.intro (fun e => absurd e (by decide)) (And.intro (fun e => absurd e (by decide)) trivial))))
    · exact And.intro (fun e => absurd e (by decide)) (And.intro (by decide) (And.intro (fun e => absurd e (by decide)) (And.intro (fun _ => ⟨h, congrArg (fun z => some (Value.int z)) f1⟩) (And.intro (fun e => absurd e (by decide)) trivial))))
    · exact And.intro (fun e => absurd e (by decide)) (And.intro (by decide) (And.intro (fun e => absurd e (by decide)) (And.intro (fun e => absurd e (by decide)) (And.intro (fun _ => ⟨h, congrArg (fun z => some (Value.int z)) f2⟩) trivial))))
