/-! The reference: plays, and what is small behind its calls -/
def postM (z : Int32 × AS) : Option Value → qw_M → Prop := fun r σ' => KM σ' z.2 ∧ r = some (.int z.1)
def postML (v : Int64) (A : AS) : Option Value → qw_M → Prop := fun r σ' => KM σ' A ∧ r = some (.long v)
section
variable {σ σ' : qw_M} {T : TT} {C : CC} {P : Nat → Option Nat} {n : Nat} {a : Nat → Nat} {L : Nat} {A : AS}
theorem r_coversOf0 {x : DP} {s : Nat} (hT : rf σ T) (hL : mL σ L) (hd : lvs σ (tF T) s x) (hz : mnz σ) (hs : s < 20) {c : Nat} (hc : c < 32) : qw_Mt qw_tw wM my_X12_coversOf [.ref 0, .int (nI s), .int (nI c)] σ (fun r σ' => σ' = σ ∧ r = some (.int (bI (fun i => decide (i < tF T) && cv T L x.1 x.2 i c)))) := by
  refine mt_mono (r_coversOf hT hL hd hz.2 hs hc) (fun r σ' ⟨k1, k2⟩ => ⟨k1, ?_⟩)
  rw [k2]
  have e : (fun i => decide (i < tF T) && (!bt (nI 0) i && cv T L x.1 x.2 i c)) = (fun i => decide (i < tF T) && cv T L x.1 x.2 i c) := by
    funext i
    rw [b_n0]
    rfl
  rw [e]
theorem r_figureBy (hT : rf σ T) {k w : Nat} (hk : k < tF T) (hw : w < 10) : qw_Mt qw_tw wM my_X12_figureBy [.ref 0, .int (nI k), .int (nI w)] σ (fun r σ' => σ' = σ ∧ r = some (.int (dtl T k w))) := by
  have hF := hT.1.1
  obtain ⟨f1, f2, f3, f4, f5⟩ := hT.2.2 k hk
  obtain ⟨o1, o2, o3, o4, o5, o6, o7⟩ := hT.1.2 k hk
  refine mt_X12_figureBy rfl (ev_X12_figureBy [] 100 ?_)
  by_cases q : 4 ≤ w
  · have e4 : nI w - nI 4 = nI (w - 4) := pk_sub (a := w) (b := 4) (by omega)
    refine vt (nle 4 w q (by omega)) ?_
    refine And.intro (pk_in (4 * k + 3) 32 (by omega) (ixm 4 k 3)) ?_
    have ed : dtl T k w = if w - 4 < tM T k then nI ((tK T k).testBit (w - 4)).toNat else m1 := by
      unfold dtl
      rw [if_neg (by omega), if_neg (by omega), if_neg (by omega), if_neg (by omega)]
    rw [ed]
    by_cases q2 : w - 4 < tM T k
    · refine vf (by rw [e4, ixc (a := 4) (b := k) (c := 3) (by omega), f4]; exact nnle (tM T k) (w - 4) q2 (by omega)) ?_
      refine And.intro (nin k 8 (by omega) (by decide)) ?_
      refine ⟨rfl, ?_⟩
      rw [if_pos q2]
      refine congrArg (fun z => some (Value.int z)) ?_
      show ((σ 8).1 (nI k).toNatClampNeg >>> ((nI w - nI 4) &&& 31)) &&& nI 1 = nI ((tK T k).testBit (w - 4)).toNat
      rw [e4, nI_clamp (n := k) (by omega), f5, bt_s (by omega), bt_nI (by omega)]
    · refine vt (by rw [e4, ixc (a := 4) (b := k) (c := 3) (by omega), f4]; exact nle (tM T k) (w - 4) (by omega) (by omega)) ?_
      rw [if_neg q2]
      exact ⟨rfl, rfl⟩
  · refine vf (nnle 4 w (by omega) (by omega)) ?_
    refine And.intro (pk_in (4 * k + w) 32 (by omega) (ixm 4 k w)) ?_
    refine ⟨rfl, ?_⟩
    refine congrArg (fun z => some (Value.int z)) ?_
    show (σ 7).1 (nI 4 * nI k + nI w).toNatClampNeg = dtl T k w
    rw [ixc (by omega)]
    have hw4 : w = 0 ∨ w = 1 ∨ w = 2 ∨ w = 3 := by omega
    rcases hw4 with rfl | rfl | rfl | rfl
    · exact f1
    · exact f2
    · exact f3
    · exact f4
theorem r_cueBy (hC : rc σ C) {s w : Nat} (hs : s < 20) (hw : w < 2) : qw_Mt qw_tw wM my_X12_cueBy [.ref 0, .int (nI s), .int (nI w)] σ (fun r σ' => σ' = σ ∧ r = some (.int (if w = 0 then cuf C s else cuw C s))) := by
  obtain ⟨c1, c2⟩ := hC.2 s hs
  refine mt_X12_cueBy rfl (ev_X12_cueBy [] 100 ?_)
  by_cases w0 : w = 0
  · refine vnf (by rw [w0]; rfl) ?_
    refine And.intro (nin s 20 hs (by decide)) ?_
    rw [if_pos w0, ← c1]
    refine ⟨rfl, ?_⟩
    rw [nI_clamp (n := s) (by omega)]
  · refine vnt (nI_ne0 (n := w) (by omega) (by omega)) ?_
    refine And.intro (nin s 20 hs (by decide)) ?_
    rw [if_neg w0, ← c2]
    refine ⟨rfl, ?_⟩
    rw [nI_clamp (n := s) (by omega)]
/-- one of the texts read, the others' readings as they were -/
theorem r_readsText (h : KM σ A) {t : Nat} (ht : t < 3) : qw_Mt qw_tw wM my_X12_readsText [.ref 0, .int (nI t)] σ (fun r σ' => frM [7, 8, 9, 10, 11] [7] σ σ' ∧ KM σ' A ∧ (thA σ A → thA σ' A) ∧ r = some (.int (obi (aF A t)))) := by
  have fin : ∀ {l fl : List Nat} {σ' : qw_M}, frM l fl σ σ' → (∀ k ∈ l, k ∈ [7, 8, 9, 10, 11]) → (∀ k ∈ fl, k ∈ [7]) → frM [7, 8, 9, 10, 11] [7] σ σ' ∧ KM σ' A := fun hf h1 h2 => by
    have hf2 := hf.mo h1 h2
    exact ⟨hf2, h.fr hf2 (by decide) (by decide)⟩
  refine mt_X12_readsText rfl (ev_X12_readsText [] 100 ?_)
  have ht3 : t = 0 ∨ t = 1 ∨ t = 2 := by omega
  rcases ht3 with rfl | rfl | rfl
  · refine vnf rfl ?_
    refine ⟨trivial, _, rdF h, fun y σ2 ⟨k1, k2, k3⟩ => ?_⟩
    obtain ⟨f1, f2⟩ := fin k1 (by decide) (by decide)
    exact ⟨f1, f2, fun q => ⟨k3, q.2.1.fr k1 (by decide) (by decide), q.2.2.1.fr k1 (by decide), q.2.2.2.1.fr k1 (by decide) (by decide), q.2.2.2.2.1.fr k1 (by decide), q.2.2.2.2.2.fr k1 (by decide) (by decide)⟩, k2⟩
  · refine vnt (by decide) ?_
    refine vnf rfl ?_
    refine ⟨trivial, _, rdC h, fun y σ2 ⟨k1, k2, k3⟩ => ?_⟩
    obtain ⟨f1, f2⟩ := fin k1 (by decide) (by decide)
    exact ⟨f1, f2, fun q => ⟨q.1.fr k1 (by decide) (by decide) (by decide), k3, q.2.2.1.fr k1 (by decide), q.2.2.2.1.fr k1 (by decide) (by decide), q.2.2.2.2.1.fr k1 (by decide), q.2.2.2.2.2.fr k1 (by decide) (by decide)⟩, k2⟩
  · refine vnt (by decide) ?_
    refine vnt (by decide) ?_
    refine ⟨trivial, _, rdP h, fun y σ2 ⟨k1, k2, k3⟩ => ?_⟩
    obtain ⟨f1, f2⟩ := fin k1 (by decide) (by decide)
    exact ⟨f1, f2, fun q => ⟨q.1.fr k1 (by decide) (by decide) (by decide), q.2.1.fr k1 (by decide) (by decide), k3, q.2.2.2.1.fr k1 (by decide) (by decide), q.2.2.2.2.1.fr k1 (by decide), q.2.2.2.2.2.fr k1 (by decide) (by decide)⟩, k2⟩
theorem r_cuesTold (hC : rc σ C) : qw_Mt qw_tw wM my_X12_cuesTold [.ref 0] σ (fun r σ' => σ' = σ ∧ r = some (.int (nI (cnt (fun s => (C s).isSome) 20)))) := by
  refine mt_X12_cuesTold rfl ?_
  have loop : ∀ (m j : Nat) (y z : Int32), j + m = 20 → y = nI j → z = nI (cnt (fun s => (C s).isSome) j) → E_X12_cuesTold (fun r σ' => σ' = σ ∧ r = some (.int (nI (cnt (fun s => (C s).isSome) 20)))) 4 [(0, .ref 0), (1, .int z), (2, .int y)] [] σ := by
    intro m
    induction m with
    | zero =>
      intro j y z hj hy hz
      subst hy hz
      have : j = 20 := by omega
      subst this
      refine ev_X12_cuesTold [4] 100 ?_
      refine vt (Int32.le_refl _) ?_
      exact ⟨rfl, rfl⟩
    | succ m ih =>
      intro j y z hj hy hz
      subst hy hz
      obtain ⟨p1, p2⟩ := hC.2 j (by omega)
      have e : cnt (fun s => (C s).isSome) (j + 1) = cnt (fun s => (C s).isSome) j + (C j).isSome.toNat := rfl
      refine ev_X12_cuesTold [4] 100 ?_
      refine vf (nnle 20 j (by omega) (by omega)) ?_
      refine And.intro (nin j 20 (by omega) (by decide)) ?_
      cases hp : C j with
      | none =>
        refine vnf (by rw [nI_clamp (by omega), p1, cuf_none hp]) ?_
        refine ih (j + 1) _ _ (by omega) (nI_add j 1) ?_
        rw [e, hp, nI_add]
        rfl
      | some v =>
        have hv := (hC.1 j v.1 v.2 hp).1
        refine vnt (by rw [nI_clamp (by omega), p1]; simp only [cuf, hp]; exact nI_m1 (a := v.1) (by omega)) ?_
        refine ih (j + 1) _ _ (by omega) (nI_add j 1) ?_
        rw [e, hp, nI_add]
        rfl
  refine ev_X12_cuesTold [4] 100 ?_
  exact loop 20 0 _ _ rfl rfl rfl
theorem r_no {x : Int32} {z : Int64} (h : (-9223372036854775808 : Int64) - x.toInt64 = z) : qw_Mt qw_tw wM my_X12_no [.int x] σ (fun r σ' => σ' = σ ∧ r = some (.long z)) := by
  subst h
  refine mt_X12_no rfl (ev_X12_no [] 100 ?_)
  exact ⟨rfl, rfl⟩
theorem r_lot {m : Nat} {u : Int32} (hu : u = nI m) (h0 : 0 < m) (hm : m < 65536) {x : Int32} (hx : (σ 0).1 25 = x) : qw_Mt qw_tw wM my_X12_lot [.ref 0, .int u] σ (fun r σ' => σ' = qw_pi σ 0 25 (lcg x) ∧ r = some (.int (nI (lhi (lcg x) % m)))) := by
  subst hu hx
  have hl := lhi_lt (lcg ((σ 0).1 25))
  refine mt_X12_lot rfl (ev_X12_lot [] 100 ?_)
  refine And.intro (nI_ne0 h0 (by omega)) ?_
  have e : (qw_pi σ 0 25 (lcg ((σ 0).1 25)) 0).1 25 = lcg ((σ 0).1 25) := pi_eq
  refine ⟨rfl, ?_⟩
  refine congrArg (fun z => some (Value.int z)) ?_
  show (((qw_pi σ 0 25 (lcg ((σ 0).1 25)) 0).1 25).toUInt32 >>> ((nI 16).toUInt32 &&& Int32.toUInt32 31)).toInt32 - (((qw_pi σ 0 25 (lcg ((σ 0).1 25)) 0).1 25).toUInt32 >>> ((nI 16).toUInt32 &&& Int32.toUInt32 31)).toInt32 / nI m * nI m = nI (lhi (lcg ((σ 0).1 25)) % m)
  rw [e, lhi_eq, pk_rem (by omega) h0 (by omega)]
theorem frM.tw {l fl : List Nat} {k j : Nat} {x : Int32} (h : frM l fl σ σ') (hk : k ∈ l) (h0 : k ≠ 0) : frM l fl σ (qw_pi σ' k j x) := h.tr (frM.pi hk h0)
theorem r_playOf (h : KM σ A) (ht : thA σ A) (x : Int32) {m w : Nat} (hm : m ≤ 20) (hw : w < 2) : qw_Mt qw_tw wM my_X12_playOf [.ref 0, .int x, .int (nI m), .int (nI w)] σ (fun r σ' => frM scM sfM σ σ' ∧ KM σ' A ∧ thA σ' A ∧ r = some (.int (plA A x m w))) := by
  have hF := ht.1.1.1
  generalize hQ : (fun (r : Option Value) (σ' : qw_M) => frM scM sfM σ σ' ∧ KM σ' A ∧ thA σ' A ∧ r = some (.int (plA A x m w))) = Q
  refine mt_X12_playOf (Q := Q) rfl ?_
  -- behind the draws
  have at60 : ∀ (ls : qw_L) (σ' : qw_M), frM [9, 10] [25] σ σ' → rc σ' (lotC (tF (aT A)) x m) → (∀ q ∈ [(0, Value.ref 0), (1, .int x), (2, .int (nI m)), (3, .int (nI w))], q ∈ ls) → E_X12_playOf Q 60 ls [] σ' := fun ls σ' hf hc hls => by
    have hT' := ht.1.fr hf (by decide) (by decide) (by decide)
    have hP' := ht.2.2.1.fr hf (by decide)
    have hk' := ht.2.2.2.1.fr hf (by decide) (by decide)
    have hL' := ht.2.2.2.2.1.fr hf (by decide)
    have hz' := ht.2.2.2.2.2.fr hf (by decide) (by decide)
    have hlv := r_lives hT' hc
    rw [hz'.1, nosk] at hlv
    refine qw_Ev.sub (ev_X12_playOf [82] 100 ?_) hls
    refine ⟨trivial, _, hlv, fun σ2 ⟨k1, k2, k3⟩ => ?_⟩
    have hT2 := hT'.fr k1 (by decide) (by decide) (by decide)
    have hP2 := hP'.fr k1 (by decide)
    have hk2 := hk'.fr k1 (by decide) (by decide)
    have hL2 := hL'.fr k1 (by decide)
    have hz2 := hz'.fr k1 (by decide) (by decide)
    have hf2 : frM scM sfM σ σ2 := (hf.mo (by unfold scM; decide) (by unfold sfM; decide)).tr (k1.mo (by unfold scM; decide) (by unfold sfM; decide))
    have h2 := h.sc hf2
    have at82 : ∀ (ls : qw_L) (v : Int32), v = plA A x m w → (∀ q ∈ [(0, Value.ref 0)], q ∈ ls) → E_X12_playOf Q 82 ls [.int v] σ2 := fun ls v hv hls => by
      refine qw_Ev.sub (ev_X12_playOf [] 100 ?_) hls
      refine ⟨trivial, _, rdC h2, fun y σ3 ⟨l1, l2, l3⟩ => ?_⟩
      have hf3 : frM scM sfM σ2 σ3 := l1.mo (by unfold scM; decide) (by unfold sfM; decide)
      subst hQ
      refine ⟨hf2.tr hf3, h2.sc hf3, ⟨hT2.fr l1 (by decide) (by decide) (by decide), l3, hP2.fr l1 (by decide), hk2.fr l1 (by decide) (by decide), hL2.fr l1 (by decide), hz2.fr l1 (by decide) (by decide)⟩, ?_⟩
      rw [← hv]
    by_cases w0 : w = 0
    · refine vnf (by rw [w0]; rfl) ?_
      refine ⟨trivial, _, r_shownBy (C := lotC (tF (aT A)) x m) (w := 1) ⟨hT2, hP2, hk2, hL2, hz2⟩ k2 (by decide), fun y σ3 ⟨l1, v, l2, l3, l4⟩ => ?_⟩
      cases l2
      have l1 := l1.symm
      subst l1
      refine at82 _ _ ?_ (sub_pre rfl)
      rw [l4 rfl]
      unfold plA
      rw [if_pos w0]
    · refine vnt (nI_ne0 (n := w) (by omega) (by omega)) ?_
      refine ⟨trivial, _, r_darkOf hT2 hk2 hL2 (k2 19 (by decide)) hz2.2 (s := 19) (by decide), fun y σ3 ⟨l1, l2⟩ => ?_⟩
      cases l2
      have l1 := l1.symm
      subst l1
      refine at82 _ _ ?_ (sub_pre rfl)
      rw [nosk]
      unfold plA
      rw [if_neg w0]
      rfl
  have loop : ∀ (r j : Nat) (y : Int32) (ls : qw_L) (σ' : qw_M), j + r = m → y = nI j → frM [9, 10] [25] σ σ' → (σ' 0).1 25 = itl x (2 * j) → rc σ' (lotC (tF (aT A)) x j) → (∀ q ∈ [(0, Value.ref 0), (1, .int x), (2, .int (nI m)), (3, .int (nI w)), (4, .int y)], q ∈ ls) → E_X12_playOf Q 14 ls [] σ' := by
    intro r
    induction r with
    | zero =>
      intro j y ls σ' hj hy hf hd hc hls
      subst hy
      have : j = m := by omega
      subst this
      refine qw_Ev.sub (ev_X12_playOf [60] 100 ?_) hls
      refine vt (Int32.le_refl _) ?_
      exact at60 _ _ hf hc (sub_pre rfl)
    | succ r ih =>
      intro j y ls σ' hj hy hf hd hc hls
      subst hy
      have h7 : (σ' 0).1 7 = nI (tF (aT A)) := by rw [hf.2 7 (by decide)]; exact ht.1.2.1
      refine qw_Ev.sub (ev_X12_playOf [14, 60] 100 ?_) hls
      refine vf (nnle m j (by omega) (by omega)) ?_
      by_cases F0 : tF (aT A) = 0
      · refine vt (by rw [h7, F0]; exact Int32.le_refl _) ?_
        have e : lotC (tF (aT A)) x j = lotC (tF (aT A)) x m := by
          funext s
          unfold lotC
          rw [if_neg (by omega), if_neg (by omega)]
        rw [e] at hc
        exact at60 _ _ hf hc (sub_pre rfl)
      · refine vf (by rw [h7]; exact nI_nle (by omega) (by omega)) ?_
        refine ⟨trivial, _, r_lot (m := tF (aT A)) h7 (by omega) (by omega) hd, fun y σ2 ⟨k1, k2⟩ => ?_⟩
        cases k2
        have k1 := k1.symm
        subst k1
        refine And.intro (nin j 20 (by omega) (by decide)) ?_
        have e1 : lcg (itl x (2 * j)) = itl x (2 * j + 1) := rfl
        have e2 : lcg (lcg (itl x (2 * j))) = itl x (2 * (j + 1)) := rfl
        have hd2 : (qw_pi (qw_pi σ' 0 25 (lcg (itl x (2 * j)))) 9 (nI j).toNatClampNeg (nI (lhi (lcg (itl x (2 * j))) % tF (aT A))) 0).1 25 = lcg (itl x (2 * j)) := by
          rw [pi_off (by decide)]
          exact pi_eq
        refine ⟨trivial, _, r_lot (m := 4) rfl (by decide) (by decide) hd2, fun y σ2 ⟨k1, k2⟩ => ?_⟩
        cases k2
        have k1 := k1.symm
        subst k1
        refine And.intro (nin j 20 (by omega) (by decide)) ?_
        refine ih (j + 1) _ _ _ (by omega) (nI_add j 1) (hf.tr (((frM.p0 (by decide)).tr (frM.pi (by decide) (by decide))).tr ((frM.p0 (by decide)).tr (frM.pi (by decide) (by decide))))) ?_ ?_ (sub_pre rfl)
        · rw [pi_off (by decide)]
          exact pi_eq.trans e2
        · refine ⟨fun s f v e => ?_, fun s hs => ?_⟩
          · unfold lotC at e
            split at e
            · cases e
              exact ⟨Nat.lt_of_lt_of_le (Nat.mod_lt _ (by omega)) hF, Nat.mod_lt _ (by decide)⟩
            · cases e
          · obtain ⟨c1, c2⟩ := hc.2 s hs
            rw [nI_clamp (n := j) (by omega), pi_off (c := 9) (k := 10) (by decide), pi_off (c := 9) (k := 0) (by decide), pi_at, pi_at, pi_off (c := 9) (k := 0) (by decide), pi_off (c := 10) (k := 0) (by decide), pi_off (c := 10) (k := 9) (by decide), pi_off (c := 10) (k := 0) (by decide)]
            by_cases q : s = j
            · rw [if_pos q, if_pos q]
              have e : lotC (tF (aT A)) x (j + 1) s = some (lhi (itl x (2 * s + 1)) % tF (aT A), lhi (itl x (2 * s + 2)) % 4) := by
                unfold lotC
                exact if_pos (by omega)
              simp only [cuf, cuw, e]
              rw [q]
              exact ⟨rfl, rfl⟩
            · rw [if_neg q, if_neg q, c1, c2]
              have e : lotC (tF (aT A)) x (j + 1) s = lotC (tF (aT A)) x j s := by
                unfold lotC
                by_cases q2 : s < j
                · rw [if_pos (by omega), if_pos (by omega)]
                · rw [if_neg (by omega), if_neg (by omega)]
              unfold cuf cuw
              rw [e]
              exact ⟨rfl, rfl⟩
  refine ev_X12_playOf [14] 100 ?_
  refine ⟨trivial, _, r_stills, fun z σ2 ⟨k1, k2, k3⟩ => ?_⟩
  have hf1 : frM [9, 10] [25] σ σ2 := (frM.p0 (l := [9, 10]) (fl := [25]) (by decide)).tr (k1.mo (by decide) (by decide))
  refine loop m 0 _ _ _ (by omega) rfl hf1 ?_ (rc_still k2 (fun s => ?_)) (sub_pre rfl)
  · rw [k1.2 25 (by decide)]
    exact pi_eq
  · unfold lotC
    exact if_neg (by omega)
/-- -1, 0 or 1 -/
theorem ni3_dn {x : Int32} {i : Nat} (h : ni3 x = some i) : i < 3 ∧ x = dn i := by
  unfold ni3 at h
  by_cases q : x = m1
  · rw [if_pos q] at h
    cases h
    exact ⟨by decide, q⟩
  · rw [if_neg q] at h
    cases h2 : nn x 2 with
    | none => rw [h2] at h; cases h
    | some j =>
      rw [h2] at h
      cases h
      obtain ⟨h3, h4⟩ := nn_some (by decide) h2
      exact ⟨by omega, h4⟩
theorem r_in3 (x : Int32) {b c : Int64} (hb : b.toInt = -1) (hc : c.toInt = 1) : qw_Mt qw_tw wM my_X12_in [.long x.toInt64, .long b, .long c] σ (fun r σ' => σ' = σ ∧ r = some (.int (nI (ni3 x).isSome.toNat))) := by
  refine r_inZ ?_
  rw [hb, hc, Int32.toInt_toInt64]
  have hd := nn_dec (x := x) (n := 2) (by decide)
  unfold ni3
  by_cases q : x = m1
  · rw [if_pos q, q]
    decide
  · rw [if_neg q]
    have hq : ¬ x.toInt = -1 := fun z => q (Int32.toInt_inj.mp (by rw [z]; rfl))
    cases h2 : nn x 2 with
    | none =>
      rw [h2] at hd
      have hd := of_decide_eq_false hd.symm
      exact decide_eq_false (by omega)
    | some j =>
      rw [h2] at hd
      have hd := of_decide_eq_true hd.symm
      exact decide_eq_true (by omega)
end
