/-! Sheets; read, write, count -/
theorem m_sheetOf0 {x : Int32} (hx : nn x 4 = none) {σ : qw_M} : qw_Mt qw_tw wC my_X11_sheetOf [.ref 0, .int x] σ (fun r σ' => σ' = σ ∧ r = some .null) := by
  refine mt_X11_sheetOf rfl (ev_X11_sheetOf [] 100 ?_)
  refine ⟨trivial, _, m_isBelow x (n := 4) (by decide), fun z σ1 _ ⟨k1, k2⟩ => ?_⟩
  have k1 := k1.symm
  subst k1
  cases k2
  rw [hx]
  refine vt rfl ?_
  exact ⟨rfl, rfl⟩
theorem m_sheetOf {s : Nat} (hs : s < 4) {σ : qw_M} : qw_Mt qw_tw wC my_X11_sheetOf [.ref 0, .int (nI s)] σ (fun r σ' => σ' = σ ∧ r = some (.ref (43 + s))) := by
  refine mt_X11_sheetOf rfl (ev_X11_sheetOf [18] 100 ?_)
  refine ⟨trivial, _, m_isBelow (nI s) (n := 4) (by decide), fun z σ1 _ ⟨k1, k2⟩ => ?_⟩
  have k1 := k1.symm
  subst k1
  cases k2
  rw [nn_nI hs (by decide)]
  refine vf n10 ?_
  refine And.intro (nin s 4 hs (by decide)) ?_
  rw [nI_clamp (n := s) (by omega)]
  have hs4 : s = 0 ∨ s = 1 ∨ s = 2 ∨ s = 3 := by omega
  rcases hs4 with rfl | rfl | rfl | rfl
  all_goals
    refine And.intro (fun z hz => ?_) (fun hz => by cases hz)
    cases hz
    refine ev_X11_sheetOf [] 100 ?_
    exact ⟨rfl, rfl⟩
def fnd (d : Nat) : Int32 := Int32.ofInt (Int.negSucc 9) - nI d
theorem m_find {d : Nat} {σ : qw_M} : qw_Mt qw_tw wC my_X11_find [.ref 0, .int (nI d)] σ (fun r σ' => σ' = qw_pi σ 0 8 (nI d) ∧ r = some (.int (fnd d))) := by
  refine mt_X11_find rfl (ev_X11_find [] 100 ?_)
  exact ⟨rfl, rfl⟩
/-- what forbids: 0 nothing -/
def fdo (x : PG) (f : Nat) (i : Int32) : Nat := match x with
  | none => 1
  | some z => if z.1 = f then (match nn i z.2.1 with
    | none => 2
    | some _ => 0) else 3
theorem m_findingOf {k : Nat} (hk : qr_pg k) {σ : qw_M} {x : PG} (h : pg σ k x) {f : Nat} (hf : f < 3) (i : Int32) : qw_Mt qw_tw wC my_X11_findingOf [.ref k, .int (nI f), .int i] σ (fun r σ' => σ' = σ ∧ r = some (.int (nI (fdo x f i)))) := by
  have hN := psz_le h.1
  have hk0 := hk
  rcases hk with rfl | rfl | rfl | rfl
  all_goals
    refine mt_X11_findingOf rfl (ev_X11_findingOf [] 100 ?_)
    refine ⟨trivial, _, m_isLost hk0 h, fun z σ1 _ ⟨k1, k2⟩ => ?_⟩
    have k1 := k1.symm
    subst k1
    cases k2
    cases x with
    | none =>
      refine vf n10 ?_
      exact ⟨rfl, rfl⟩
    | some y =>
      obtain ⟨g, n, it⟩ := y
      refine vt rfl ?_
      have hg3 : g < 3 := h.1.1
      have hn60 : n ≤ 60 := hN
      have hg := h.2.1
      have hg : (σ _).1 1 = nI g := hg
      have hd : fdo (some (g, n, it)) f i = if g = f then (match nn i n with | none => 2 | some _ => 0) else 3 := rfl
      rw [hd]
      by_cases e : g = f
      · refine vt (hg.trans (by rw [e])) ?_
        rw [if_pos e]
        refine ⟨trivial, _, m_phas hk0 h i, fun z σ1 _ ⟨k1, k2⟩ => ?_⟩
        have k1 := k1.symm
        subst k1
        rcases k2 with ⟨j, hj, ej, k2⟩ | ⟨hj, k2⟩
        · cases k2
          have hj : j < n := hj
          rw [ej, nn_nI hj (by omega)]
          refine vf n10 ?_
          exact ⟨rfl, rfl⟩
        · cases k2
          have hj : ∀ j, j < n → i ≠ nI j := hj
          rw [nn_out (by omega) hj]
          refine vt rfl ?_
          exact ⟨rfl, rfl⟩
      · refine vf (fun z => e (nI_i (by omega) (by omega) (hg.symm.trans z))) ?_
        rw [if_neg e]
        exact ⟨rfl, rfl⟩
def do_sheet (A : AS) (x y w : Int32) : Int32 × AS := match nn x 4 with
  | none => (bad, A)
  | some s => match nn y 3 with
    | none => (bad, A)
    | some f => match nn w 61 with
      | some n => (nI n, spg A s (some (f, n, fun _ => nI 0)))
      | none => if w < 0 then (fnd 5, sfd A 5) else (bad, A)
theorem c_sheet {σ : qw_M} {A : AS} (h : KC σ A) (x y w : Int32) : qw_Mt qw_tw wC my_X11_sheet [.ref 0, .int x, .int y, .int w] σ (post (do_sheet A x y w)) := by
  refine mt_X11_sheet rfl (ev_X11_sheet [] 100 ?_)
  unfold do_sheet
  cases hs : nn x 4 with
  | none =>
    refine ⟨trivial, _, m_sheetOf0 hs, And.intro (fun σ1 k12 => ?_) (fun k σ1 k12 => nomatch k12.2)⟩
    obtain ⟨k1, k2⟩ := k12
    have k1 := k1.symm
    subst k1
    exact ⟨h, rfl⟩
  | some s =>
    obtain ⟨bs, rfl⟩ := nn_some (by decide) hs
    have bs4 : s = 0 ∨ s = 1 ∨ s = 2 ∨ s = 3 := by omega
    rcases bs4 with rfl | rfl | rfl | rfl
    · refine ⟨trivial, _, m_sheetOf (s := 0) bs, And.intro (fun σ1 k12 => nomatch k12.2) (fun k σ1 k12 => ?_)⟩
      obtain ⟨k1, k2⟩ := k12
      have k1 := k1.symm
      subst k1
      cases k2
      have hp := h.2.2.2.2.1 0 bs
      refine ⟨trivial, _, m_isBelow y (n := 3) (by decide), fun z σ1 _ ⟨k1, k2⟩ => ?_⟩
      have k1 := k1.symm
      subst k1
      cases k2
      cases hf : nn y 3 with
      | none =>
        refine vt rfl ?_
        exact ⟨h, rfl⟩
      | some f =>
        obtain ⟨bf, rfl⟩ := nn_some (by decide) hf
        refine vf n10 ?_
        cases hw : nn w 61 with
        | some n =>
          obtain ⟨bw, rfl⟩ := nn_some (by decide) hw
          refine vt (nle n 60 (by omega) (by decide)) ?_
          refine vt (nle 0 n (Nat.zero_le _) (by omega)) ?_
          refine ⟨trivial, _, m_prenew (Or.inl rfl) bf (n := n) (by omega), fun σ1 ⟨f1, g1⟩ => ?_⟩
          exact ⟨KC_pg h bs f1 g1, rfl⟩
        | none =>
          have hno := nn_none (by decide) hw
          dsimp only
          by_cases w0 : w < 0
          · rw [if_pos w0]
            have w60 : w ≤ nI 60 := by
              rw [Int32.le_iff_toInt_le]
              rw [Int32.lt_iff_toInt_lt] at w0
              have e : (nI 60).toInt = 60 := by decide
              have e0 : (0 : Int32).toInt = 0 := by decide
              omega
            refine vt w60 ?_
            refine vf (fun z => by
              have z : (0 : Int32) ≤ w := z
              exact absurd w0 (Int32.not_lt.mpr z)) ?_
            refine ⟨trivial, _, m_find (d := 5), fun z σ1 ⟨k1, k2⟩ => ?_⟩
            cases k2
            rw [k1]
            exact ⟨KC_fd h (by decide), rfl⟩
          · rw [if_neg w0]
            obtain ⟨j, hj, rfl⟩ := nI_of w0
            refine vf (fun z => ?_) ?_
            · rcases Nat.lt_or_ge 60 j with q | q
              · exact nnle j 60 q (by omega) z
              · exact hno j (by omega) rfl
            · exact ⟨h, rfl⟩
    · refine ⟨trivial, _, m_sheetOf (s := 1) bs, And.intro (fun σ1 k12 => nomatch k12.2) (fun k σ1 k12 => ?_)⟩
      obtain ⟨k1, k2⟩ := k12
      have k1 := k1.symm
      subst k1
      cases k2
      have hp := h.2.2.2.2.1 1 bs
      refine ⟨trivial, _, m_isBelow y (n := 3) (by decide), fun z σ1 _ ⟨k1, k2⟩ => ?_⟩
      have k1 := k1.symm
      subst k1
      cases k2
      cases hf : nn y 3 with
      | none =>
        refine vt rfl ?_
        exact ⟨h, rfl⟩
      | some f =>
        obtain ⟨bf, rfl⟩ := nn_some (by decide) hf
        refine vf n10 ?_
        cases hw : nn w 61 with
        | some n =>
          obtain ⟨bw, rfl⟩ := nn_some (by decide) hw
          refine vt (nle n 60 (by omega) (by decide)) ?_
          refine vt (nle 0 n (Nat.zero_le _) (by omega)) ?_
          refine ⟨trivial, _, m_prenew (Or.inr (Or.inl rfl)) bf (n := n) (by omega), fun σ1 ⟨f1, g1⟩ => ?_⟩
          exact ⟨KC_pg h bs f1 g1, rfl⟩
        | none =>
          have hno := nn_none (by decide) hw
          dsimp only
          by_cases w0 : w < 0
          · rw [if_pos w0]
            have w60 : w ≤ nI 60 := by
              rw [Int32.le_iff_toInt_le]
              rw [Int32.lt_iff_toInt_lt] at w0
              have e : (nI 60).toInt = 60 := by decide
              have e0 : (0 : Int32).toInt = 0 := by decide
              omega
            refine vt w60 ?_
            refine vf (fun z => by
              have z : (0 : Int32) ≤ w := z
              exact absurd w0 (Int32.not_lt.mpr z)) ?_
            refine ⟨trivial, _, m_find (d := 5), fun z σ1 ⟨k1, k2⟩ => ?_⟩
            cases k2
            rw [k1]
            exact ⟨KC_fd h (by decide), rfl⟩
          · rw [if_neg w0]
            obtain ⟨j, hj, rfl⟩ := nI_of w0
            refine vf (fun z => ?_) ?_
            · rcases Nat.lt_or_ge 60 j with q | q
              · exact nnle j 60 q (by omega) z
              · exact hno j (by omega) rfl
            · exact ⟨h, rfl⟩
    · refine ⟨trivial, _, m_sheetOf (s := 2) bs, And.intro (fun σ1 k12 => nomatch k12.2) (fun k σ1 k12 => ?_)⟩
      obtain ⟨k1, k2⟩ := k12
      have k1 := k1.symm
      subst k1
      cases k2
      have hp := h.2.2.2.2.1 2 bs
      refine ⟨trivial, _, m_isBelow y (n := 3) (by decide), fun z σ1 _ ⟨k1, k2⟩ => ?_⟩
      have k1 := k1.symm
      subst k1
      cases k2
      cases hf : nn y 3 with
      | none =>
        refine vt rfl ?_
        exact ⟨h, rfl⟩
      | some f =>
        obtain ⟨bf, rfl⟩ := nn_some (by decide) hf
        refine vf n10 ?_
        cases hw : nn w 61 with
        | some n =>
          obtain ⟨bw, rfl⟩ := nn_some (by decide) hw
          refine vt (nle n 60 (by omega) (by decide)) ?_
          refine vt (nle 0 n (Nat.zero_le _) (by omega)) ?_
          refine ⟨trivial, _, m_prenew (Or.inr (Or.inr (Or.inl rfl))) bf (n := n) (by omega), fun σ1 ⟨f1, g1⟩ => ?_⟩
          exact ⟨KC_pg h bs f1 g1, rfl⟩
        | none =>
          have hno := nn_none (by decide) hw
          dsimp only
          by_cases w0 : w < 0
          · rw [if_pos w0]
            have w60 : w ≤ nI 60 := by
              rw [Int32.le_iff_toInt_le]
              rw [Int32.lt_iff_toInt_lt] at w0
              have e : (nI 60).toInt = 60 := by decide
              have e0 : (0 : Int32).toInt = 0 := by decide
              omega
            refine vt w60 ?_
            refine vf (fun z => by
              have z : (0 : Int32) ≤ w := z
              exact absurd w0 (Int32.not_lt.mpr z)) ?_
            refine ⟨trivial, _, m_find (d := 5), fun z σ1 ⟨k1, k2⟩ => ?_⟩
            cases k2
            rw [k1]
            exact ⟨KC_fd h (by decide), rfl⟩
          · rw [if_neg w0]
            obtain ⟨j, hj, rfl⟩ := nI_of w0
            refine vf (fun z => ?_) ?_
            · rcases Nat.lt_or_ge 60 j with q | q
              · exact nnle j 60 q (by omega) z
              · exact hno j (by omega) rfl
            · exact ⟨h, rfl⟩
    · refine ⟨trivial, _, m_sheetOf (s := 3) bs, And.intro (fun σ1 k12 => nomatch k12.2) (fun k σ1 k12 => ?_)⟩
      obtain ⟨k1, k2⟩ := k12
      have k1 := k1.symm
      subst k1
      cases k2
      have hp := h.2.2.2.2.1 3 bs
      refine ⟨trivial, _, m_isBelow y (n := 3) (by decide), fun z σ1 _ ⟨k1, k2⟩ => ?_⟩
      have k1 := k1.symm
      subst k1
      cases k2
      cases hf : nn y 3 with
      | none =>
        refine vt rfl ?_
        exact ⟨h, rfl⟩
      | some f =>
        obtain ⟨bf, rfl⟩ := nn_some (by decide) hf
        refine vf n10 ?_
        cases hw : nn w 61 with
        | some n =>
          obtain ⟨bw, rfl⟩ := nn_some (by decide) hw
          refine vt (nle n 60 (by omega) (by decide)) ?_
          refine vt (nle 0 n (Nat.zero_le _) (by omega)) ?_
          refine ⟨trivial, _, m_prenew (Or.inr (Or.inr (Or.inr rfl))) bf (n := n) (by omega), fun σ1 ⟨f1, g1⟩ => ?_⟩
          exact ⟨KC_pg h bs f1 g1, rfl⟩
        | none =>
          have hno := nn_none (by decide) hw
          dsimp only
          by_cases w0 : w < 0
          · rw [if_pos w0]
            have w60 : w ≤ nI 60 := by
              rw [Int32.le_iff_toInt_le]
              rw [Int32.lt_iff_toInt_lt] at w0
              have e : (nI 60).toInt = 60 := by decide
              have e0 : (0 : Int32).toInt = 0 := by decide
              omega
            refine vt w60 ?_
            refine vf (fun z => by
              have z : (0 : Int32) ≤ w := z
              exact absurd w0 (Int32.not_lt.mpr z)) ?_
            refine ⟨trivial, _, m_find (d := 5), fun z σ1 ⟨k1, k2⟩ => ?_⟩
            cases k2
            rw [k1]
            exact ⟨KC_fd h (by decide), rfl⟩
          · rw [if_neg w0]
            obtain ⟨j, hj, rfl⟩ := nI_of w0
            refine vf (fun z => ?_) ?_
            · rcases Nat.lt_or_ge 60 j with q | q
              · exact nnle j 60 q (by omega) z
              · exact hno j (by omega) rfl
            · exact ⟨h, rfl⟩
def do_lose (A : AS) (x : Int32) : Int32 × AS := match nn x 4 with
  | none => (bad, A)
  | some s => match aG A s with
    | none => (fnd 1, sfd A 1)
    | some z => (nI z.2.1, spg A s none)
theorem c_lose {σ : qw_M} {A : AS} (h : KC σ A) (x : Int32) : qw_Mt qw_tw wC my_X11_lose [.ref 0, .int x] σ (post (do_lose A x)) := by
  refine mt_X11_lose rfl (ev_X11_lose [] 100 ?_)
  unfold do_lose
  cases hs : nn x 4 with
  | none =>
    refine ⟨trivial, _, m_sheetOf0 hs, And.intro (fun σ1 k12 => ?_) (fun k σ1 k12 => nomatch k12.2)⟩
    obtain ⟨k1, k2⟩ := k12
    have k1 := k1.symm
    subst k1
    exact ⟨h, rfl⟩
  | some s =>
    obtain ⟨bs, rfl⟩ := nn_some (by decide) hs
    have bs4 : s = 0 ∨ s = 1 ∨ s = 2 ∨ s = 3 := by omega
    rcases bs4 with rfl | rfl | rfl | rfl
    · refine ⟨trivial, _, m_sheetOf (s := 0) bs, And.intro (fun σ1 k12 => nomatch k12.2) (fun k σ1 k12 => ?_)⟩
      obtain ⟨k1, k2⟩ := k12
      have k1 := k1.symm
      subst k1
      cases k2
      have hp := h.2.2.2.2.1 0 bs
      refine ⟨trivial, _, m_isLost (Or.inl rfl) hp, fun z σ1 _ ⟨k1, k2⟩ => ?_⟩
      have k1 := k1.symm
      subst k1
      cases k2
      dsimp only
      cases hg : aG A 0 with
      | none =>
        refine vf n10 ?_
        refine ⟨trivial, _, m_find (d := 1), fun z σ1 ⟨k1, k2⟩ => ?_⟩
        cases k2
        rw [k1]
        exact ⟨KC_fd h (by decide), rfl⟩
      | some y =>
        refine vt rfl ?_
        rw [hg] at hp
        refine ⟨trivial, _, m_pdrop (Or.inl rfl) hp, fun z σ1 ⟨f1, g1, k2⟩ => ?_⟩
        cases k2
        exact ⟨KC_pg h bs (f1.mo (by simp)) g1, rfl⟩
    · refine ⟨trivial, _, m_sheetOf (s := 1) bs, And.intro (fun σ1 k12 => nomatch k12.2) (fun k σ1 k12 => ?_)⟩
      obtain ⟨k1, k2⟩ := k12
      have k1 := k1.symm
      subst k1
      cases k2
      have hp := h.2.2.2.2.1 1 bs
      refine ⟨trivial, _, m_isLost (Or.inr (Or.inl rfl)) hp, fun z σ1 _ ⟨k1, k2⟩ => ?_⟩
      have k1 := k1.symm
      subst k1
      cases k2
      dsimp only
      cases hg : aG A 1 with
      | none =>
        refine vf n10 ?_
        refine ⟨trivial, _, m_find (d := 1), fun z σ1 ⟨k1, k2⟩ => ?_⟩
        cases k2
        rw [k1]
        exact ⟨KC_fd h (by decide), rfl⟩
      | some y =>
        refine vt rfl ?_
        rw [hg] at hp
        refine ⟨trivial, _, m_pdrop (Or.inr (Or.inl rfl)) hp, fun z σ1 ⟨f1, g1, k2⟩ => ?_⟩
        cases k2
        exact ⟨KC_pg h bs (f1.mo (by simp)) g1, rfl⟩
    · refine ⟨trivial, _, m_sheetOf (s := 2) bs, And.intro (fun σ1 k12 => nomatch k12.2) (fun k σ1 k12 => ?_)⟩
      obtain ⟨k1, k2⟩ := k12
      have k1 := k1.symm
      subst k1
      cases k2
      have hp := h.2.2.2.2.1 2 bs
      refine ⟨trivial, _, m_isLost (Or.inr (Or.inr (Or.inl rfl))) hp, fun z σ1 _ ⟨k1, k2⟩ => ?_⟩
      have k1 := k1.symm
      subst k1
      cases k2
      dsimp only
      cases hg : aG A 2 with
      | none =>
        refine vf n10 ?_
        refine ⟨trivial, _, m_find (d := 1), fun z σ1 ⟨k1, k2⟩ => ?_⟩
        cases k2
        rw [k1]
        exact ⟨KC_fd h (by decide), rfl⟩
      | some y =>
        refine vt rfl ?_
        rw [hg] at hp
        refine ⟨trivial, _, m_pdrop (Or.inr (Or.inr (Or.inl rfl))) hp, fun z σ1 ⟨f1, g1, k2⟩ => ?_⟩
        cases k2
        exact ⟨KC_pg h bs (f1.mo (by simp)) g1, rfl⟩
    · refine ⟨trivial, _, m_sheetOf (s := 3) bs, And.intro (fun σ1 k12 => nomatch k12.2) (fun k σ1 k12 => ?_)⟩
      obtain ⟨k1, k2⟩ := k12
      have k1 := k1.symm
      subst k1
      cases k2
      have hp := h.2.2.2.2.1 3 bs
      refine ⟨trivial, _, m_isLost (Or.inr (Or.inr (Or.inr rfl))) hp, fun z σ1 _ ⟨k1, k2⟩ => ?_⟩
      have k1 := k1.symm
      subst k1
      cases k2
      dsimp only
      cases hg : aG A 3 with
      | none =>
        refine vf n10 ?_
        refine ⟨trivial, _, m_find (d := 1), fun z σ1 ⟨k1, k2⟩ => ?_⟩
        cases k2
        rw [k1]
        exact ⟨KC_fd h (by decide), rfl⟩
      | some y =>
        refine vt rfl ?_
        rw [hg] at hp
        refine ⟨trivial, _, m_pdrop (Or.inr (Or.inr (Or.inr rfl))) hp, fun z σ1 ⟨f1, g1, k2⟩ => ?_⟩
        cases k2
        exact ⟨KC_pg h bs (f1.mo (by simp)) g1, rfl⟩
def do_lay (A : AS) (x y w v : Int32) : Int32 × AS := match nn x 4 with
  | none => (bad, A)
  | some s => match nn y 3 with
    | none => (bad, A)
    | some f => match aG A s with
      | none => (fnd 1, sfd A 1)
      | some z => if z.1 = f then (match nn w z.2.1 with
        | none => (fnd 2, sfd A 2)
        | some j => (nI 1, spg A s (pput (some z) j v))) else (fnd 3, sfd A 3)
theorem c_lay {σ : qw_M} {A : AS} (h : KC σ A) (x y w v : Int32) : qw_Mt qw_tw wC my_X11_lay [.ref 0, .int x, .int y, .int w, .int v] σ (post (do_lay A x y w v)) := by
  refine mt_X11_lay rfl (ev_X11_lay [] 100 ?_)
  unfold do_lay
  cases hs : nn x 4 with
  | none =>
    refine ⟨trivial, _, m_sheetOf0 hs, And.intro (fun σ1 k12 => ?_) (fun k σ1 k12 => nomatch k12.2)⟩
    obtain ⟨k1, k2⟩ := k12
    have k1 := k1.symm
    subst k1
    exact ⟨h, rfl⟩
  | some s =>
    obtain ⟨bs, rfl⟩ := nn_some (by decide) hs
    have bs4 : s = 0 ∨ s = 1 ∨ s = 2 ∨ s = 3 := by omega
    rcases bs4 with rfl | rfl | rfl | rfl
    · refine ⟨trivial, _, m_sheetOf (s := 0) bs, And.intro (fun σ1 k12 => nomatch k12.2) (fun k σ1 k12 => ?_)⟩
      obtain ⟨k1, k2⟩ := k12
      have k1 := k1.symm
      subst k1
      cases k2
      have hp := h.2.2.2.2.1 0 bs
      refine ⟨trivial, _, m_isBelow y (n := 3) (by decide), fun z σ1 _ ⟨k1, k2⟩ => ?_⟩
      have k1 := k1.symm
      subst k1
      cases k2
      cases hf : nn y 3 with
      | none =>
        refine vnf rfl ?_
        exact ⟨h, rfl⟩
      | some f =>
        obtain ⟨bf, rfl⟩ := nn_some (by decide) hf
        refine vnt n10 ?_
        refine ⟨trivial, _, m_findingOf (Or.inl rfl) hp bf w, fun z σ1 ⟨k1, k2⟩ => ?_⟩
        have k1 := k1.symm
        subst k1
        cases k2
        dsimp only
        cases hg : aG A 0 with
        | none =>
          refine vf n10 ?_
          refine ⟨trivial, _, m_find (d := 1), fun z σ1 ⟨k1, k2⟩ => ?_⟩
          cases k2
          rw [k1]
          exact ⟨KC_fd h (by decide), rfl⟩
        | some y =>
          obtain ⟨g, n, it⟩ := y
          rw [hg] at hp
          have hn60 : n ≤ 60 := hp.1.2
          dsimp only [fdo]
          by_cases e : g = f
          · rw [if_pos e, if_pos e]
            cases hw : nn w n with
            | none =>
              refine vf (by decide) ?_
              refine ⟨trivial, _, m_find (d := 2), fun z σ1 ⟨k1, k2⟩ => ?_⟩
              cases k2
              rw [k1]
              exact ⟨KC_fd h (by decide), rfl⟩
            | some j =>
              obtain ⟨bj, rfl⟩ := nn_some (by omega) hw
              refine vt rfl ?_
              refine ⟨trivial, _, m_pput (Or.inl rfl) hp (j := j) bj v, fun σ1 ⟨f1, g1⟩ => ?_⟩
              exact ⟨KC_pg h bs (f1.mo (by simp)) g1, rfl⟩
          · rw [if_neg e, if_neg e]
            refine vf (by decide) ?_
            refine ⟨trivial, _, m_find (d := 3), fun z σ1 ⟨k1, k2⟩ => ?_⟩
            cases k2
            rw [k1]
            exact ⟨KC_fd h (by decide), rfl⟩
    · refine ⟨trivial, _, m_sheetOf (s := 1) bs, And.intro (fun σ1 k12 => nomatch k12.2) (fun k σ1 k12 => ?_)⟩
      obtain ⟨k1, k2⟩ := k12
      have k1 := k1.symm
      subst k1
      cases k2
      have hp := h.2.2.2.2.1 1 bs
      refine ⟨trivial, _, m_isBelow y (n := 3) (by decide), fun z σ1 _ ⟨k1, k2⟩ => ?_⟩
      have k1 := k1.symm
      subst k1
      cases k2
      cases hf : nn y 3 with
      | none =>
        refine vnf rfl ?_
        exact ⟨h, rfl⟩
      | some f =>
        obtain ⟨bf, rfl⟩ := nn_some (by decide) hf
        refine vnt n10 ?_
        refine ⟨trivial, _, m_findingOf (Or.inr (Or.inl rfl)) hp bf w, fun z σ1 ⟨k1, k2⟩ => ?_⟩
        have k1 := k1.symm
        subst k1
        cases k2
        dsimp only
        cases hg : aG A 1 with
        | none =>
          refine vf n10 ?_
          refine ⟨trivial, _, m_find (d := 1), fun z σ1 ⟨k1, k2⟩ => ?_⟩
          cases k2
          rw [k1]
          exact ⟨KC_fd h (by decide), rfl⟩
        | some y =>
          obtain ⟨g, n, it⟩ := y
          rw [hg] at hp
          have hn60 : n ≤ 60 := hp.1.2
          dsimp only [fdo]
          by_cases e : g = f
          · rw [if_pos e, if_pos e]
            cases hw : nn w n with
            | none =>
              refine vf (by decide) ?_
              refine ⟨trivial, _, m_find (d := 2), fun z σ1 ⟨k1, k2⟩ => ?_⟩
              cases k2
              rw [k1]
              exact ⟨KC_fd h (by decide), rfl⟩
            | some j =>
              obtain ⟨bj, rfl⟩ := nn_some (by omega) hw
              refine vt rfl ?_
              refine ⟨trivial, _, m_pput (Or.inr (Or.inl rfl)) hp (j := j) bj v, fun σ1 ⟨f1, g1⟩ => ?_⟩
              exact ⟨KC_pg h bs (f1.mo (by simp)) g1, rfl⟩
          · rw [if_neg e, if_neg e]
            refine vf (by decide) ?_
            refine ⟨trivial, _, m_find (d := 3), fun z σ1 ⟨k1, k2⟩ => ?_⟩
            cases k2
            rw [k1]
            exact ⟨KC_fd h (by decide), rfl⟩
    · refine ⟨trivial, _, m_sheetOf (s := 2) bs, And.intro (fun σ1 k12 => nomatch k12.2) (fun k σ1 k12 => ?_)⟩
      obtain ⟨k1, k2⟩ := k12
      have k1 := k1.symm
      subst k1
      cases k2
      have hp := h.2.2.2.2.1 2 bs
      refine ⟨trivial, _, m_isBelow y (n := 3) (by decide), fun z σ1 _ ⟨k1, k2⟩ => ?_⟩
      have k1 := k1.symm
      subst k1
      cases k2
      cases hf : nn y 3 with
      | none =>
        refine vnf rfl ?_
        exact ⟨h, rfl⟩
      | some f =>
        obtain ⟨bf, rfl⟩ := nn_some (by decide) hf
        refine vnt n10 ?_
        refine ⟨trivial, _, m_findingOf (Or.inr (Or.inr (Or.inl rfl))) hp bf w, fun z σ1 ⟨k1, k2⟩ => ?_⟩
        have k1 := k1.symm
        subst k1
        cases k2
        dsimp only
        cases hg : aG A 2 with
        | none =>
          refine vf n10 ?_
          refine ⟨trivial, _, m_find (d := 1), fun z σ1 ⟨k1, k2⟩ => ?_⟩
          cases k2
          rw [k1]
          exact ⟨KC_fd h (by decide), rfl⟩
        | some y =>
          obtain ⟨g, n, it⟩ := y
          rw [hg] at hp
          have hn60 : n ≤ 60 := hp.1.2
          dsimp only [fdo]
          by_cases e : g = f
          · rw [if_pos e, if_pos e]
            cases hw : nn w n with
            | none =>
              refine vf (by decide) ?_
              refine ⟨trivial, _, m_find (d := 2), fun z σ1 ⟨k1, k2⟩ => ?_⟩
              cases k2
              rw [k1]
              exact ⟨KC_fd h (by decide), rfl⟩
            | some j =>
              obtain ⟨bj, rfl⟩ := nn_some (by omega) hw
              refine vt rfl ?_
              refine ⟨trivial, _, m_pput (Or.inr (Or.inr (Or.inl rfl))) hp (j := j) bj v, fun σ1 ⟨f1, g1⟩ => ?_⟩
              exact ⟨KC_pg h bs (f1.mo (by simp)) g1, rfl⟩
          · rw [if_neg e, if_neg e]
            refine vf (by decide) ?_
            refine ⟨trivial, _, m_find (d := 3), fun z σ1 ⟨k1, k2⟩ => ?_⟩
            cases k2
            rw [k1]
            exact ⟨KC_fd h (by decide), rfl⟩
    · refine ⟨trivial, _, m_sheetOf (s := 3) bs, And.intro (fun σ1 k12 => nomatch k12.2) (fun k σ1 k12 => ?_)⟩
      obtain ⟨k1, k2⟩ := k12
      have k1 := k1.symm
      subst k1
      cases k2
      have hp := h.2.2.2.2.1 3 bs
      refine ⟨trivial, _, m_isBelow y (n := 3) (by decide), fun z σ1 _ ⟨k1, k2⟩ => ?_⟩
      have k1 := k1.symm
      subst k1
      cases k2
      cases hf : nn y 3 with
      | none =>
        refine vnf rfl ?_
        exact ⟨h, rfl⟩
      | some f =>
        obtain ⟨bf, rfl⟩ := nn_some (by decide) hf
        refine vnt n10 ?_
        refine ⟨trivial, _, m_findingOf (Or.inr (Or.inr (Or.inr rfl))) hp bf w, fun z σ1 ⟨k1, k2⟩ => ?_⟩
        have k1 := k1.symm
        subst k1
        cases k2
        dsimp only
        cases hg : aG A 3 with
        | none =>
          refine vf n10 ?_
          refine ⟨trivial, _, m_find (d := 1), fun z σ1 ⟨k1, k2⟩ => ?_⟩
          cases k2
          rw [k1]
          exact ⟨KC_fd h (by decide), rfl⟩
        | some y =>
          obtain ⟨g, n, it⟩ := y
          rw [hg] at hp
          have hn60 : n ≤ 60 := hp.1.2
          dsimp only [fdo]
          by_cases e : g = f
          · rw [if_pos e, if_pos e]
            cases hw : nn w n with
            | none =>
              refine vf (by decide) ?_
              refine ⟨trivial, _, m_find (d := 2), fun z σ1 ⟨k1, k2⟩ => ?_⟩
              cases k2
              rw [k1]
              exact ⟨KC_fd h (by decide), rfl⟩
            | some j =>
              obtain ⟨bj, rfl⟩ := nn_some (by omega) hw
              refine vt rfl ?_
              refine ⟨trivial, _, m_pput (Or.inr (Or.inr (Or.inr rfl))) hp (j := j) bj v, fun σ1 ⟨f1, g1⟩ => ?_⟩
              exact ⟨KC_pg h bs (f1.mo (by simp)) g1, rfl⟩
          · rw [if_neg e, if_neg e]
            refine vf (by decide) ?_
            refine ⟨trivial, _, m_find (d := 3), fun z σ1 ⟨k1, k2⟩ => ?_⟩
            cases k2
            rw [k1]
            exact ⟨KC_fd h (by decide), rfl⟩
abbrev leI : Int32 := -2147483648
def do_get (A : AS) (x y w : Int32) : Int32 × AS := match nn x 4 with
  | none => (leI, A)
  | some s => match nn y 3 with
    | none => (leI, A)
    | some f => match aG A s with
      | none => (leI, sfd A 1)
      | some z => if z.1 = f then (match nn w z.2.1 with
        | none => (leI, sfd A 2)
        | some j => (z.2.2 j, A)) else (leI, sfd A 3)
theorem c_get {σ : qw_M} {A : AS} (h : KC σ A) (x y w : Int32) : qw_Mt qw_tw wC my_X11_get [.ref 0, .int x, .int y, .int w] σ (post (do_get A x y w)) := by
  refine mt_X11_get rfl (ev_X11_get [] 100 ?_)
  unfold do_get
  cases hs : nn x 4 with
  | none =>
    refine ⟨trivial, _, m_sheetOf0 hs, And.intro (fun σ1 k12 => ?_) (fun k σ1 k12 => nomatch k12.2)⟩
    obtain ⟨k1, k2⟩ := k12
    have k1 := k1.symm
    subst k1
    exact ⟨h, rfl⟩
  | some s =>
    obtain ⟨bs, rfl⟩ := nn_some (by decide) hs
    have bs4 : s = 0 ∨ s = 1 ∨ s = 2 ∨ s = 3 := by omega
    rcases bs4 with rfl | rfl | rfl | rfl
    · refine ⟨trivial, _, m_sheetOf (s := 0) bs, And.intro (fun σ1 k12 => nomatch k12.2) (fun k σ1 k12 => ?_)⟩
      obtain ⟨k1, k2⟩ := k12
      have k1 := k1.symm
      subst k1
      cases k2
      have hp := h.2.2.2.2.1 0 bs
      refine ⟨trivial, _, m_isBelow y (n := 3) (by decide), fun z σ1 _ ⟨k1, k2⟩ => ?_⟩
      have k1 := k1.symm
      subst k1
      cases k2
      cases hf : nn y 3 with
      | none =>
        refine vnf rfl ?_
        exact ⟨h, rfl⟩
      | some f =>
        obtain ⟨bf, rfl⟩ := nn_some (by decide) hf
        refine vnt n10 ?_
        refine ⟨trivial, _, m_findingOf (Or.inl rfl) hp bf w, fun z σ1 ⟨k1, k2⟩ => ?_⟩
        have k1 := k1.symm
        subst k1
        cases k2
        dsimp only
        cases hg : aG A 0 with
        | none =>
          refine vf n10 ?_
          refine ⟨trivial, _, m_find (d := 1), fun z σ1 ⟨k1, k2⟩ => ?_⟩
          cases k2
          rw [k1]
          exact ⟨KC_fd h (by decide), rfl⟩
        | some y =>
          obtain ⟨g, n, it⟩ := y
          rw [hg] at hp
          have hn60 : n ≤ 60 := hp.1.2
          dsimp only [fdo]
          by_cases e : g = f
          · rw [if_pos e, if_pos e]
            cases hw : nn w n with
            | none =>
              refine vf (by decide) ?_
              refine ⟨trivial, _, m_find (d := 2), fun z σ1 ⟨k1, k2⟩ => ?_⟩
              cases k2
              rw [k1]
              exact ⟨KC_fd h (by decide), rfl⟩
            | some j =>
              obtain ⟨bj, rfl⟩ := nn_some (by omega) hw
              refine vt rfl ?_
              refine ⟨trivial, _, m_pitem (Or.inl rfl) hp (j := j) bj, fun z σ1 ⟨k1, k2⟩ => ?_⟩
              have k1 := k1.symm
              subst k1
              cases k2
              exact ⟨h, rfl⟩
          · rw [if_neg e, if_neg e]
            refine vf (by decide) ?_
            refine ⟨trivial, _, m_find (d := 3), fun z σ1 ⟨k1, k2⟩ => ?_⟩
            cases k2
            rw [k1]
            exact ⟨KC_fd h (by decide), rfl⟩
    · refine ⟨trivial, _, m_sheetOf (s := 1) bs, And.intro (fun σ1 k12 => nomatch k12.2) (fun k σ1 k12 => ?_)⟩
      obtain ⟨k1, k2⟩ := k12
      have k1 := k1.symm
      subst k1
      cases k2
      have hp := h.2.2.2.2.1 1 bs
      refine ⟨trivial, _, m_isBelow y (n := 3) (by decide), fun z σ1 _ ⟨k1, k2⟩ => ?_⟩
      have k1 := k1.symm
      subst k1
      cases k2
      cases hf : nn y 3 with
      | none =>
        refine vnf rfl ?_
        exact ⟨h, rfl⟩
      | some f =>
        obtain ⟨bf, rfl⟩ := nn_some (by decide) hf
        refine vnt n10 ?_
        refine ⟨trivial, _, m_findingOf (Or.inr (Or.inl rfl)) hp bf w, fun z σ1 ⟨k1, k2⟩ => ?_⟩
        have k1 := k1.symm
        subst k1
        cases k2
        dsimp only
        cases hg : aG A 1 with
        | none =>
          refine vf n10 ?_
          refine ⟨trivial, _, m_find (d := 1), fun z σ1 ⟨k1, k2⟩ => ?_⟩
          cases k2
          rw [k1]
          exact ⟨KC_fd h (by decide), rfl⟩
        | some y =>
          obtain ⟨g, n, it⟩ := y
          rw [hg] at hp
          have hn60 : n ≤ 60 := hp.1.2
          dsimp only [fdo]
          by_cases e : g = f
          · rw [if_pos e, if_pos e]
            cases hw : nn w n with
            | none =>
              refine vf (by decide) ?_
              refine ⟨trivial, _, m_find (d := 2), fun z σ1 ⟨k1, k2⟩ => ?_⟩
              cases k2
              rw [k1]
              exact ⟨KC_fd h (by decide), rfl⟩
            | some j =>
              obtain ⟨bj, rfl⟩ := nn_some (by omega) hw
              refine vt rfl ?_
              refine ⟨trivial, _, m_pitem (Or.inr (Or.inl rfl)) hp (j := j) bj, fun z σ1 ⟨k1, k2⟩ => ?_⟩
              have k1 := k1.symm
              subst k1
              cases k2
              exact ⟨h, rfl⟩
          · rw [if_neg e, if_neg e]
            refine vf (by decide) ?_
            refine ⟨trivial, _, m_find (d := 3), fun z σ1 ⟨k1, k2⟩ => ?_⟩
            cases k2
            rw [k1]
            exact ⟨KC_fd h (by decide), rfl⟩
    · refine ⟨trivial, _, m_sheetOf (s := 2) bs, And.intro (fun σ1 k12 => nomatch k12.2) (fun k σ1 k12 => ?_)⟩
      obtain ⟨k1, k2⟩ := k12
      have k1 := k1.symm
      subst k1
      cases k2
      have hp := h.2.2.2.2.1 2 bs
      refine ⟨trivial, _, m_isBelow y (n := 3) (by decide), fun z σ1 _ ⟨k1, k2⟩ => ?_⟩
      have k1 := k1.symm
      subst k1
      cases k2
      cases hf : nn y 3 with
      | none =>
        refine vnf rfl ?_
        exact ⟨h, rfl⟩
      | some f =>
        obtain ⟨bf, rfl⟩ := nn_some (by decide) hf
        refine vnt n10 ?_
        refine ⟨trivial, _, m_findingOf (Or.inr (Or.inr (Or.inl rfl))) hp bf w, fun z σ1 ⟨k1, k2⟩ => ?_⟩
        have k1 := k1.symm
        subst k1
        cases k2
        dsimp only
        cases hg : aG A 2 with
        | none =>
          refine vf n10 ?_
          refine ⟨trivial, _, m_find (d := 1), fun z σ1 ⟨k1, k2⟩ => ?_⟩
          cases k2
          rw [k1]
          exact ⟨KC_fd h (by decide), rfl⟩
        | some y =>
          obtain ⟨g, n, it⟩ := y
          rw [hg] at hp
          have hn60 : n ≤ 60 := hp.1.2
          dsimp only [fdo]
          by_cases e : g = f
          · rw [if_pos e, if_pos e]
            cases hw : nn w n with
            | none =>
              refine vf (by decide) ?_
              refine ⟨trivial, _, m_find (d := 2), fun z σ1 ⟨k1, k2⟩ => ?_⟩
              cases k2
              rw [k1]
              exact ⟨KC_fd h (by decide), rfl⟩
            | some j =>
              obtain ⟨bj, rfl⟩ := nn_some (by omega) hw
              refine vt rfl ?_
              refine ⟨trivial, _, m_pitem (Or.inr (Or.inr (Or.inl rfl))) hp (j := j) bj, fun z σ1 ⟨k1, k2⟩ => ?_⟩
              have k1 := k1.symm
              subst k1
              cases k2
              exact ⟨h, rfl⟩
          · rw [if_neg e, if_neg e]
            refine vf (by decide) ?_
            refine ⟨trivial, _, m_find (d := 3), fun z σ1 ⟨k1, k2⟩ => ?_⟩
            cases k2
            rw [k1]
            exact ⟨KC_fd h (by decide), rfl⟩
    · refine ⟨trivial, _, m_sheetOf (s := 3) bs, And.intro (fun σ1 k12 => nomatch k12.2) (fun k σ1 k12 => ?_)⟩
      obtain ⟨k1, k2⟩ := k12
      have k1 := k1.symm
      subst k1
      cases k2
      have hp := h.2.2.2.2.1 3 bs
      refine ⟨trivial, _, m_isBelow y (n := 3) (by decide), fun z σ1 _ ⟨k1, k2⟩ => ?_⟩
      have k1 := k1.symm
      subst k1
      cases k2
      cases hf : nn y 3 with
      | none =>
        refine vnf rfl ?_
        exact ⟨h, rfl⟩
      | some f =>
        obtain ⟨bf, rfl⟩ := nn_some (by decide) hf
        refine vnt n10 ?_
        refine ⟨trivial, _, m_findingOf (Or.inr (Or.inr (Or.inr rfl))) hp bf w, fun z σ1 ⟨k1, k2⟩ => ?_⟩
        have k1 := k1.symm
        subst k1
        cases k2
        dsimp only
        cases hg : aG A 3 with
        | none =>
          refine vf n10 ?_
          refine ⟨trivial, _, m_find (d := 1), fun z σ1 ⟨k1, k2⟩ => ?_⟩
          cases k2
          rw [k1]
          exact ⟨KC_fd h (by decide), rfl⟩
        | some y =>
          obtain ⟨g, n, it⟩ := y
          rw [hg] at hp
          have hn60 : n ≤ 60 := hp.1.2
          dsimp only [fdo]
          by_cases e : g = f
          · rw [if_pos e, if_pos e]
            cases hw : nn w n with
            | none =>
              refine vf (by decide) ?_
              refine ⟨trivial, _, m_find (d := 2), fun z σ1 ⟨k1, k2⟩ => ?_⟩
              cases k2
              rw [k1]
              exact ⟨KC_fd h (by decide), rfl⟩
            | some j =>
              obtain ⟨bj, rfl⟩ := nn_some (by omega) hw
              refine vt rfl ?_
              refine ⟨trivial, _, m_pitem (Or.inr (Or.inr (Or.inr rfl))) hp (j := j) bj, fun z σ1 ⟨k1, k2⟩ => ?_⟩
              have k1 := k1.symm
              subst k1
              cases k2
              exact ⟨h, rfl⟩
          · rw [if_neg e, if_neg e]
            refine vf (by decide) ?_
            refine ⟨trivial, _, m_find (d := 3), fun z σ1 ⟨k1, k2⟩ => ?_⟩
            cases k2
            rw [k1]
            exact ⟨KC_fd h (by decide), rfl⟩
