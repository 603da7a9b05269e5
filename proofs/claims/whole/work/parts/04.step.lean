/-! CORE 4: each instruction, on the machine; runs of instructions -/
section QS3
variable {tw : List Cond} {w : qw_Wd} {K : qw_K} {Y : qw_Y} {Q : Option Value → qw_M → Prop}
/-- an instruction that only goes on -/
def qw_On (tw : List Cond) (w : qw_Wd) (K : qw_K) (Y : qw_Y) (Q : Option Value → qw_M → Prop) (k : Nat → qw_L → List Value → qw_M → Prop) : Prop := ∀ pc' ls' st' σ', k pc' ls' st' σ' → qw_Ev tw w K Y Q pc' ls' st' σ'

theorem qw_ofN (j : Nat) : Int32.ofInt (Int.ofNat j) = nI j := Int32.ofInt_eq_ofNat
theorem qw_b8 (j : Nat) (h : j < 128) : (Int8.ofInt (Int.ofNat j)).toInt32 = nI j := by
  apply Int32.toInt_inj.mp
  rw [Int8.toInt_toInt32, Int8.toInt_ofInt, nI_toInt (by omega)]
  show Int.bmod (j : Int) 256 = (j : Int)
  rw [Int.bmod_eq_of_le] <;> omega
theorem qw_n8 (j : Nat) (h : j < 128) : (Int8.ofInt (Int.negSucc j)).toInt32 = Int32.ofInt (Int.negSucc j) := by
  apply Int32.toInt_inj.mp
  rw [Int8.toInt_toInt32, Int8.toInt_ofInt, Int32.toInt_ofInt]
  show Int.bmod (Int.negSucc j) 256 = Int.bmod (Int.negSucc j) 4294967296
  rw [Int.bmod_eq_of_le, Int.bmod_eq_of_le] <;> omega
theorem qw_b16 (j : Nat) (h : j < 32768) : (Int16.ofInt (Int.ofNat j)).toInt32 = nI j := by
  apply Int32.toInt_inj.mp
  rw [Int16.toInt_toInt32, Int16.toInt_ofInt, nI_toInt (by omega)]
  show Int.bmod (j : Int) 65536 = (j : Int)
  rw [Int.bmod_eq_of_le] <;> omega
theorem qw_step_iconst (hok : qw_ok tw w K) {k : Nat → qw_L → List Value → qw_M → Prop} (hk : qw_On tw w K Y Q k) {pc : Nat} {ls : qw_L} {st : List Value} {σ : qw_M} {n : Int} (hd : qw_dec (qw_yb Y) pc (.iconst n)) (hF : qw_F tw w K Y Q k (.iconst n) pc ls st σ) : qw_Ev tw w K Y Q pc ls st σ := by
  have hd := qw_dec1 hd rfl
  intro p l e s m args below meth c g C0 H locs hP hS lsA hl
  obtain ⟨hx, hb, hret, hml, hown, hts, hlk, hI, hK, hE⟩ := id C0
  obtain ⟨hgood, hwf, hcok, htok, hkok⟩ := id hok
  cases n with
  | ofNat j => exact lv_iconst hx hb hd (qw_ofN j) (hk _ _ _ _ hF p l e s m args below meth c g C0 H locs hP hS lsA hl)
  | negSucc j => exact lv_iconst hx hb hd rfl (hk _ _ _ _ hF p l e s m args below meth c g C0 H locs hP hS lsA hl)
theorem qw_step_bipush (hok : qw_ok tw w K) {k : Nat → qw_L → List Value → qw_M → Prop} (hk : qw_On tw w K Y Q k) {pc : Nat} {ls : qw_L} {st : List Value} {σ : qw_M} {n : Int} (hd : qw_dec (qw_yb Y) pc (.bipush n)) (hF : qw_F tw w K Y Q k (.bipush n) pc ls st σ) : qw_Ev tw w K Y Q pc ls st σ := by
  have hd := qw_dec1 hd rfl
  intro p l e s m args below meth c g C0 H locs hP hS lsA hl
  obtain ⟨hx, hb, hret, hml, hown, hts, hlk, hI, hK, hE⟩ := id C0
  obtain ⟨hgood, hwf, hcok, htok, hkok⟩ := id hok
  cases n with
  | ofNat j =>
    dsimp only [qw_F] at hF
    split at hF <;> try exact False.elim hF
    rename_i he
    exact lv_bipush hx hb hd (qw_b8 j (qw_lt he)) (hk _ _ _ _ hF p l e s m args below meth c g C0 H locs hP hS lsA hl)
  | negSucc j =>
    dsimp only [qw_F] at hF
    split at hF <;> try exact False.elim hF
    rename_i he
    exact lv_bipush hx hb hd (qw_n8 j (qw_lt he)) (hk _ _ _ _ hF p l e s m args below meth c g C0 H locs hP hS lsA hl)
theorem qw_step_sipush (hok : qw_ok tw w K) {k : Nat → qw_L → List Value → qw_M → Prop} (hk : qw_On tw w K Y Q k) {pc : Nat} {ls : qw_L} {st : List Value} {σ : qw_M} {n : Int} (hd : qw_dec (qw_yb Y) pc (.sipush n)) (hF : qw_F tw w K Y Q k (.sipush n) pc ls st σ) : qw_Ev tw w K Y Q pc ls st σ := by
  have hd := qw_dec1 hd rfl
  intro p l e s m args below meth c g C0 H locs hP hS lsA hl
  obtain ⟨hx, hb, hret, hml, hown, hts, hlk, hI, hK, hE⟩ := id C0
  obtain ⟨hgood, hwf, hcok, htok, hkok⟩ := id hok
  cases n with
  | ofNat j =>
    dsimp only [qw_F] at hF
    split at hF <;> try exact False.elim hF
    rename_i he
    exact lv_sipush hx hb hd (qw_b16 j (qw_lt he)) (hk _ _ _ _ hF p l e s m args below meth c g C0 H locs hP hS lsA hl)
  | negSucc j => exact False.elim hF
theorem qw_step_lconst (hok : qw_ok tw w K) {k : Nat → qw_L → List Value → qw_M → Prop} (hk : qw_On tw w K Y Q k) {pc : Nat} {ls : qw_L} {st : List Value} {σ : qw_M} {n : Fin 2} (hd : qw_dec (qw_yb Y) pc (.lconst n)) (hF : qw_F tw w K Y Q k (.lconst n) pc ls st σ) : qw_Ev tw w K Y Q pc ls st σ := by
  have hd := qw_dec1 hd rfl
  intro p l e s m args below meth c g C0 H locs hP hS lsA hl
  obtain ⟨hx, hb, hret, hml, hown, hts, hlk, hI, hK, hE⟩ := id C0
  obtain ⟨hgood, hwf, hcok, htok, hkok⟩ := id hok
  exact lv_lconst hx hb hd rfl (hk _ _ _ _ hF p l e s m args below meth c g C0 H locs hP hS lsA hl)
theorem qw_step_aconst_null (hok : qw_ok tw w K) {k : Nat → qw_L → List Value → qw_M → Prop} (hk : qw_On tw w K Y Q k) {pc : Nat} {ls : qw_L} {st : List Value} {σ : qw_M} (hd : qw_dec (qw_yb Y) pc (.aconst_null)) (hF : qw_F tw w K Y Q k (.aconst_null) pc ls st σ) : qw_Ev tw w K Y Q pc ls st σ := by
  have hd := qw_dec1 hd rfl
  intro p l e s m args below meth c g C0 H locs hP hS lsA hl
  obtain ⟨hx, hb, hret, hml, hown, hts, hlk, hI, hK, hE⟩ := id C0
  obtain ⟨hgood, hwf, hcok, htok, hkok⟩ := id hok
  exact lv_null hx hb hd (hk _ _ _ _ hF p l e s m args below meth c g C0 H locs hP hS lsA hl)
theorem qw_step_ldc_w (hok : qw_ok tw w K) {k : Nat → qw_L → List Value → qw_M → Prop} (hk : qw_On tw w K Y Q k) {pc : Nat} {ls : qw_L} {st : List Value} {σ : qw_M} {j : Nat} (hd : qw_dec (qw_yb Y) pc (.ldc_w j)) (hF : qw_F tw w K Y Q k (.ldc_w j) pc ls st σ) : qw_Ev tw w K Y Q pc ls st σ := by
  have hd := qw_dec1 hd rfl
  intro p l e s m args below meth c g C0 H locs hP hS lsA hl
  obtain ⟨hx, hb, hret, hml, hown, hts, hlk, hI, hK, hE⟩ := id C0
  obtain ⟨hgood, hwf, hcok, htok, hkok⟩ := id hok
  dsimp only [qw_F] at hF
  cases hq : qw_lk (qw_ki K) j with
  | none => simp only [hq] at hF
  | some v =>
    simp only [hq] at hF
    exact lv_ldcw hx hb hown (hts _ (List.mem_cons_of_mem _ (hkok.2.2.1 j v hq))) hd (hk _ _ _ _ hF p l e s m args below meth c g C0 H locs hP hS lsA hl)
theorem qw_step_ldc2_w (hok : qw_ok tw w K) {k : Nat → qw_L → List Value → qw_M → Prop} (hk : qw_On tw w K Y Q k) {pc : Nat} {ls : qw_L} {st : List Value} {σ : qw_M} {j : Nat} (hd : qw_dec (qw_yb Y) pc (.ldc2_w j)) (hF : qw_F tw w K Y Q k (.ldc2_w j) pc ls st σ) : qw_Ev tw w K Y Q pc ls st σ := by
  have hd := qw_dec1 hd rfl
  intro p l e s m args below meth c g C0 H locs hP hS lsA hl
  obtain ⟨hx, hb, hret, hml, hown, hts, hlk, hI, hK, hE⟩ := id C0
  obtain ⟨hgood, hwf, hcok, htok, hkok⟩ := id hok
  dsimp only [qw_F] at hF
  cases hq : qw_lk (qw_kl K) j with
  | none => simp only [hq] at hF
  | some v =>
    simp only [hq] at hF
    exact lv_ldc2 hx hb hown (hts _ (List.mem_cons_of_mem _ (hkok.2.2.2.1 j v hq))) hd (hk _ _ _ _ hF p l e s m args below meth c g C0 H locs hP hS lsA hl)
theorem qw_step_ldc (hok : qw_ok tw w K) {k : Nat → qw_L → List Value → qw_M → Prop} (hk : qw_On tw w K Y Q k) {pc : Nat} {ls : qw_L} {st : List Value} {σ : qw_M} {j : Nat} (hd : qw_dec (qw_yb Y) pc (.ldc j)) (hF : qw_F tw w K Y Q k (.ldc j) pc ls st σ) : qw_Ev tw w K Y Q pc ls st σ := by
  have hd := qw_dec1 hd rfl
  intro p l e s m args below meth c g C0 H locs hP hS lsA hl
  obtain ⟨hx, hb, hret, hml, hown, hts, hlk, hI, hK, hE⟩ := id C0
  obtain ⟨hgood, hwf, hcok, htok, hkok⟩ := id hok
  dsimp only [qw_F] at hF
  cases hq : qw_lk (qw_ki K) j with
  | none =>
    simp only [hq] at hF
    cases hq2 : qw_lk (qw_ks K) j with
    | none => simp only [hq2] at hF
    | some i =>
      simp only [hq2] at hF
      split at hF <;> try exact False.elim hF
      rename_i he
      obtain ⟨tx, hs⟩ := hkok.2.2.2.2.2.2.1 j i hq2
      exact va_ldcS hx hb hown (hE.2.2.2.2.2 _ hs) hd (hk _ _ _ _ hF p l e s m args below meth c g C0 H locs hP hS lsA hl)
  | some v =>
    simp only [hq] at hF
    exact lv_ldc hx hb hown (hts _ (List.mem_cons_of_mem _ (hkok.2.2.1 j v hq))) hd (hk _ _ _ _ hF p l e s m args below meth c g C0 H locs hP hS lsA hl)
theorem qw_step_iload_n (hok : qw_ok tw w K) {k : Nat → qw_L → List Value → qw_M → Prop} (hk : qw_On tw w K Y Q k) {pc : Nat} {ls : qw_L} {st : List Value} {σ : qw_M} {j : Fin 4} (hd : qw_dec (qw_yb Y) pc (.iload_n j)) (hF : qw_F tw w K Y Q k (.iload_n j) pc ls st σ) : qw_Ev tw w K Y Q pc ls st σ := by
  have hd := qw_dec1 hd rfl
  intro p l e s m args below meth c g C0 H locs hP hS lsA hl
  obtain ⟨hx, hb, hret, hml, hown, hts, hlk, hI, hK, hE⟩ := id C0
  obtain ⟨hgood, hwf, hcok, htok, hkok⟩ := id hok
  dsimp only [qw_F] at hF
  split at hF <;> try exact False.elim hF
  rename_i x hq
  exact lv_iload_n hx hb hd rfl (qw_loc hl hq) (hk _ _ _ _ hF p l e s m args below meth c g C0 H locs hP hS lsA hl)
theorem qw_step_lload_n (hok : qw_ok tw w K) {k : Nat → qw_L → List Value → qw_M → Prop} (hk : qw_On tw w K Y Q k) {pc : Nat} {ls : qw_L} {st : List Value} {σ : qw_M} {j : Fin 4} (hd : qw_dec (qw_yb Y) pc (.lload_n j)) (hF : qw_F tw w K Y Q k (.lload_n j) pc ls st σ) : qw_Ev tw w K Y Q pc ls st σ := by
  have hd := qw_dec1 hd rfl
  intro p l e s m args below meth c g C0 H locs hP hS lsA hl
  obtain ⟨hx, hb, hret, hml, hown, hts, hlk, hI, hK, hE⟩ := id C0
  obtain ⟨hgood, hwf, hcok, htok, hkok⟩ := id hok
  dsimp only [qw_F] at hF
  split at hF <;> try exact False.elim hF
  rename_i x hq
  exact lv_lload_n hx hb hd rfl (qw_loc hl hq) (hk _ _ _ _ hF p l e s m args below meth c g C0 H locs hP hS lsA hl)
theorem qw_step_iload (hok : qw_ok tw w K) {k : Nat → qw_L → List Value → qw_M → Prop} (hk : qw_On tw w K Y Q k) {pc : Nat} {ls : qw_L} {st : List Value} {σ : qw_M} {j : Nat} (hd : qw_dec (qw_yb Y) pc (.iload j)) (hF : qw_F tw w K Y Q k (.iload j) pc ls st σ) : qw_Ev tw w K Y Q pc ls st σ := by
  have hd := qw_dec1 hd rfl
  intro p l e s m args below meth c g C0 H locs hP hS lsA hl
  obtain ⟨hx, hb, hret, hml, hown, hts, hlk, hI, hK, hE⟩ := id C0
  obtain ⟨hgood, hwf, hcok, htok, hkok⟩ := id hok
  dsimp only [qw_F] at hF
  split at hF <;> try exact False.elim hF
  rename_i x hq
  exact lv_iload hx hb hd (qw_loc hl hq) (hk _ _ _ _ hF p l e s m args below meth c g C0 H locs hP hS lsA hl)
theorem qw_step_lload (hok : qw_ok tw w K) {k : Nat → qw_L → List Value → qw_M → Prop} (hk : qw_On tw w K Y Q k) {pc : Nat} {ls : qw_L} {st : List Value} {σ : qw_M} {j : Nat} (hd : qw_dec (qw_yb Y) pc (.lload j)) (hF : qw_F tw w K Y Q k (.lload j) pc ls st σ) : qw_Ev tw w K Y Q pc ls st σ := by
  have hd := qw_dec1 hd rfl
  intro p l e s m args below meth c g C0 H locs hP hS lsA hl
  obtain ⟨hx, hb, hret, hml, hown, hts, hlk, hI, hK, hE⟩ := id C0
  obtain ⟨hgood, hwf, hcok, htok, hkok⟩ := id hok
  dsimp only [qw_F] at hF
  split at hF <;> try exact False.elim hF
  rename_i x hq
  exact lv_lload hx hb hd (qw_loc hl hq) (hk _ _ _ _ hF p l e s m args below meth c g C0 H locs hP hS lsA hl)
theorem qw_step_aload_n (hok : qw_ok tw w K) {k : Nat → qw_L → List Value → qw_M → Prop} (hk : qw_On tw w K Y Q k) {pc : Nat} {ls : qw_L} {st : List Value} {σ : qw_M} {j : Fin 4} (hd : qw_dec (qw_yb Y) pc (.aload_n j)) (hF : qw_F tw w K Y Q k (.aload_n j) pc ls st σ) : qw_Ev tw w K Y Q pc ls st σ := by
  have hd := qw_dec1 hd rfl
  intro p l e s m args below meth c g C0 H locs hP hS lsA hl
  obtain ⟨hx, hb, hret, hml, hown, hts, hlk, hI, hK, hE⟩ := id C0
  obtain ⟨hgood, hwf, hcok, htok, hkok⟩ := id hok
  dsimp only [qw_F] at hF
  split at hF <;> try exact False.elim hF
  · rename_i x hq
    exact lv_aload_n hx hb hd rfl (qw_loc hl hq) (hk _ _ _ _ hF p l e s m args below meth c g C0 H locs hP hS lsA hl)
  · rename_i hq
    exact lv_aload_nN hx hb hd rfl (qw_loc hl hq) (hk _ _ _ _ hF p l e s m args below meth c g C0 H locs hP hS lsA hl)
theorem qw_step_aload (hok : qw_ok tw w K) {k : Nat → qw_L → List Value → qw_M → Prop} (hk : qw_On tw w K Y Q k) {pc : Nat} {ls : qw_L} {st : List Value} {σ : qw_M} {j : Nat} (hd : qw_dec (qw_yb Y) pc (.aload j)) (hF : qw_F tw w K Y Q k (.aload j) pc ls st σ) : qw_Ev tw w K Y Q pc ls st σ := by
  have hd := qw_dec1 hd rfl
  intro p l e s m args below meth c g C0 H locs hP hS lsA hl
  obtain ⟨hx, hb, hret, hml, hown, hts, hlk, hI, hK, hE⟩ := id C0
  obtain ⟨hgood, hwf, hcok, htok, hkok⟩ := id hok
  dsimp only [qw_F] at hF
  split at hF <;> try exact False.elim hF
  · rename_i x hq
    exact lv_aload hx hb hd (qw_loc hl hq) (hk _ _ _ _ hF p l e s m args below meth c g C0 H locs hP hS lsA hl)
  · rename_i hq
    exact lv_aloadN hx hb hd (qw_loc hl hq) (hk _ _ _ _ hF p l e s m args below meth c g C0 H locs hP hS lsA hl)
theorem qw_step_istore_n (hok : qw_ok tw w K) {k : Nat → qw_L → List Value → qw_M → Prop} (hk : qw_On tw w K Y Q k) {pc : Nat} {ls : qw_L} {st : List Value} {σ : qw_M} {j : Fin 4} (hd : qw_dec (qw_yb Y) pc (.istore_n j)) (hF : qw_F tw w K Y Q k (.istore_n j) pc ls st σ) : qw_Ev tw w K Y Q pc ls st σ := by
  have hd := qw_dec1 hd rfl
  intro p l e s m args below meth c g C0 H locs hP hS lsA hl
  obtain ⟨hx, hb, hret, hml, hown, hts, hlk, hI, hK, hE⟩ := id C0
  obtain ⟨hgood, hwf, hcok, htok, hkok⟩ := id hok
  dsimp only [qw_F] at hF
  split at hF <;> try exact False.elim hF
  rename_i hj
  obtain ⟨x, r, rfl, h⟩ := qw_i1_inv hF
  exact lv_istore_n hx hb hd rfl hl (qw_lt hj) rfl (fun ls' h' => hk _ _ _ _ h p l e s m args below meth c g C0 H locs hP hS ls' (qw_has1 h'))
theorem qw_step_istore (hok : qw_ok tw w K) {k : Nat → qw_L → List Value → qw_M → Prop} (hk : qw_On tw w K Y Q k) {pc : Nat} {ls : qw_L} {st : List Value} {σ : qw_M} {j : Nat} (hd : qw_dec (qw_yb Y) pc (.istore j)) (hF : qw_F tw w K Y Q k (.istore j) pc ls st σ) : qw_Ev tw w K Y Q pc ls st σ := by
  have hd := qw_dec1 hd rfl
  intro p l e s m args below meth c g C0 H locs hP hS lsA hl
  obtain ⟨hx, hb, hret, hml, hown, hts, hlk, hI, hK, hE⟩ := id C0
  obtain ⟨hgood, hwf, hcok, htok, hkok⟩ := id hok
  dsimp only [qw_F] at hF
  split at hF <;> try exact False.elim hF
  rename_i hj
  obtain ⟨x, r, rfl, h⟩ := qw_i1_inv hF
  exact lv_istore hx hb hd hl (qw_lt hj) rfl (fun ls' h' => hk _ _ _ _ h p l e s m args below meth c g C0 H locs hP hS ls' (qw_has1 h'))
theorem qw_step_lstore_n (hok : qw_ok tw w K) {k : Nat → qw_L → List Value → qw_M → Prop} (hk : qw_On tw w K Y Q k) {pc : Nat} {ls : qw_L} {st : List Value} {σ : qw_M} {j : Fin 4} (hd : qw_dec (qw_yb Y) pc (.lstore_n j)) (hF : qw_F tw w K Y Q k (.lstore_n j) pc ls st σ) : qw_Ev tw w K Y Q pc ls st σ := by
  have hd := qw_dec1 hd rfl
  intro p l e s m args below meth c g C0 H locs hP hS lsA hl
  obtain ⟨hx, hb, hret, hml, hown, hts, hlk, hI, hK, hE⟩ := id C0
  obtain ⟨hgood, hwf, hcok, htok, hkok⟩ := id hok
  dsimp only [qw_F] at hF
  split at hF <;> try exact False.elim hF
  rename_i hj
  obtain ⟨x, r, rfl, h⟩ := qw_l1_inv hF
  exact lv_lstore_n hx hb hd rfl hl (qw_lt hj) rfl (fun ls' h' => hk _ _ _ _ h p l e s m args below meth c g C0 H locs hP hS ls' (qw_has2 h'))
theorem qw_step_lstore (hok : qw_ok tw w K) {k : Nat → qw_L → List Value → qw_M → Prop} (hk : qw_On tw w K Y Q k) {pc : Nat} {ls : qw_L} {st : List Value} {σ : qw_M} {j : Nat} (hd : qw_dec (qw_yb Y) pc (.lstore j)) (hF : qw_F tw w K Y Q k (.lstore j) pc ls st σ) : qw_Ev tw w K Y Q pc ls st σ := by
  have hd := qw_dec1 hd rfl
  intro p l e s m args below meth c g C0 H locs hP hS lsA hl
  obtain ⟨hx, hb, hret, hml, hown, hts, hlk, hI, hK, hE⟩ := id C0
  obtain ⟨hgood, hwf, hcok, htok, hkok⟩ := id hok
  dsimp only [qw_F] at hF
  split at hF <;> try exact False.elim hF
  rename_i hj
  obtain ⟨x, r, rfl, h⟩ := qw_l1_inv hF
  exact lv_lstore hx hb hd hl (qw_lt hj) rfl (fun ls' h' => hk _ _ _ _ h p l e s m args below meth c g C0 H locs hP hS ls' (qw_has2 h'))
theorem qw_step_astore_n (hok : qw_ok tw w K) {k : Nat → qw_L → List Value → qw_M → Prop} (hk : qw_On tw w K Y Q k) {pc : Nat} {ls : qw_L} {st : List Value} {σ : qw_M} {j : Fin 4} (hd : qw_dec (qw_yb Y) pc (.astore_n j)) (hF : qw_F tw w K Y Q k (.astore_n j) pc ls st σ) : qw_Ev tw w K Y Q pc ls st σ := by
  have hd := qw_dec1 hd rfl
  intro p l e s m args below meth c g C0 H locs hP hS lsA hl
  obtain ⟨hx, hb, hret, hml, hown, hts, hlk, hI, hK, hE⟩ := id C0
  obtain ⟨hgood, hwf, hcok, htok, hkok⟩ := id hok
  dsimp only [qw_F] at hF
  split at hF <;> try exact False.elim hF
  · rename_i x r hj
    exact lv_astore_n hx hb hd rfl hl (qw_lt hj) rfl (fun ls' h' => hk _ _ _ _ hF p l e s m args below meth c g C0 H locs hP hS ls' (qw_has1 (v := .ref x) h'))
  · rename_i r hj
    exact lv_astore_nN hx hb hd rfl hl (qw_lt hj) rfl (fun ls' h' => hk _ _ _ _ hF p l e s m args below meth c g C0 H locs hP hS ls' (qw_has1 (v := .null) h'))
theorem qw_step_astore (hok : qw_ok tw w K) {k : Nat → qw_L → List Value → qw_M → Prop} (hk : qw_On tw w K Y Q k) {pc : Nat} {ls : qw_L} {st : List Value} {σ : qw_M} {j : Nat} (hd : qw_dec (qw_yb Y) pc (.astore j)) (hF : qw_F tw w K Y Q k (.astore j) pc ls st σ) : qw_Ev tw w K Y Q pc ls st σ := by
  have hd := qw_dec1 hd rfl
  intro p l e s m args below meth c g C0 H locs hP hS lsA hl
  obtain ⟨hx, hb, hret, hml, hown, hts, hlk, hI, hK, hE⟩ := id C0
  obtain ⟨hgood, hwf, hcok, htok, hkok⟩ := id hok
  dsimp only [qw_F] at hF
  split at hF <;> try exact False.elim hF
  · rename_i x r hj
    exact lv_astore hx hb hd hl (qw_lt hj) rfl (fun ls' h' => hk _ _ _ _ hF p l e s m args below meth c g C0 H locs hP hS ls' (qw_has1 (v := .ref x) h'))
  · rename_i r hj
    exact lv_astoreN hx hb hd hl (qw_lt hj) rfl (fun ls' h' => hk _ _ _ _ hF p l e s m args below meth c g C0 H locs hP hS ls' (qw_has1 (v := .null) h'))
theorem qw_step_iinc (hok : qw_ok tw w K) {k : Nat → qw_L → List Value → qw_M → Prop} (hk : qw_On tw w K Y Q k) {pc : Nat} {ls : qw_L} {st : List Value} {σ : qw_M} {j : Nat} {n : Int} (hd : qw_dec (qw_yb Y) pc (.iinc j n)) (hF : qw_F tw w K Y Q k (.iinc j n) pc ls st σ) : qw_Ev tw w K Y Q pc ls st σ := by
  have hd := qw_dec1 hd rfl
  intro p l e s m args below meth c g C0 H locs hP hS lsA hl
  obtain ⟨hx, hb, hret, hml, hown, hts, hlk, hI, hK, hE⟩ := id C0
  obtain ⟨hgood, hwf, hcok, htok, hkok⟩ := id hok
  dsimp only [qw_F] at hF
  split at hF <;> try exact False.elim hF
  rename_i x hj hq
  obtain ⟨i0, hi0⟩ := List.getElem?_of_mem (List.mem_map.mpr ⟨(j, Value.int x), qw_lk_mem hq, rfl⟩ : (j, Value.int x) ∈ qw_lm g.2.1 ls)
  cases n with
  | ofNat i => exact lv_iinc hx hb hd hl hi0 (by rw [qw_ofN]) (qw_lt hj) rfl (fun ls' h' => hk _ _ _ _ hF p l e s m args below meth c g C0 H locs hP hS ls' (qw_has1 (v := .int _) h'))
  | negSucc i => exact lv_iinc hx hb hd hl hi0 rfl (qw_lt hj) rfl (fun ls' h' => hk _ _ _ _ hF p l e s m args below meth c g C0 H locs hP hS ls' (qw_has1 (v := .int _) h'))
theorem qw_step_iadd (hok : qw_ok tw w K) {k : Nat → qw_L → List Value → qw_M → Prop} (hk : qw_On tw w K Y Q k) {pc : Nat} {ls : qw_L} {st : List Value} {σ : qw_M} (hd : qw_dec (qw_yb Y) pc (.iadd)) (hF : qw_F tw w K Y Q k (.iadd) pc ls st σ) : qw_Ev tw w K Y Q pc ls st σ := by
  have hd := qw_dec1 hd rfl
  intro p l e s m args below meth c g C0 H locs hP hS lsA hl
  obtain ⟨hx, hb, hret, hml, hown, hts, hlk, hI, hK, hE⟩ := id C0
  obtain ⟨hgood, hwf, hcok, htok, hkok⟩ := id hok
  obtain ⟨x, y, r, rfl, h⟩ := qw_i2_inv hF
  exact lv_iadd hx hb hd (hk _ _ _ _ h p l e s m args below meth c g C0 H locs hP hS lsA hl)
theorem qw_step_isub (hok : qw_ok tw w K) {k : Nat → qw_L → List Value → qw_M → Prop} (hk : qw_On tw w K Y Q k) {pc : Nat} {ls : qw_L} {st : List Value} {σ : qw_M} (hd : qw_dec (qw_yb Y) pc (.isub)) (hF : qw_F tw w K Y Q k (.isub) pc ls st σ) : qw_Ev tw w K Y Q pc ls st σ := by
  have hd := qw_dec1 hd rfl
  intro p l e s m args below meth c g C0 H locs hP hS lsA hl
  obtain ⟨hx, hb, hret, hml, hown, hts, hlk, hI, hK, hE⟩ := id C0
  obtain ⟨hgood, hwf, hcok, htok, hkok⟩ := id hok
  obtain ⟨x, y, r, rfl, h⟩ := qw_i2_inv hF
  exact lv_isub hx hb hd (hk _ _ _ _ h p l e s m args below meth c g C0 H locs hP hS lsA hl)
theorem qw_step_imul (hok : qw_ok tw w K) {k : Nat → qw_L → List Value → qw_M → Prop} (hk : qw_On tw w K Y Q k) {pc : Nat} {ls : qw_L} {st : List Value} {σ : qw_M} (hd : qw_dec (qw_yb Y) pc (.imul)) (hF : qw_F tw w K Y Q k (.imul) pc ls st σ) : qw_Ev tw w K Y Q pc ls st σ := by
  have hd := qw_dec1 hd rfl
  intro p l e s m args below meth c g C0 H locs hP hS lsA hl
  obtain ⟨hx, hb, hret, hml, hown, hts, hlk, hI, hK, hE⟩ := id C0
  obtain ⟨hgood, hwf, hcok, htok, hkok⟩ := id hok
  obtain ⟨x, y, r, rfl, h⟩ := qw_i2_inv hF
  exact lv_imul hx hb hd (hk _ _ _ _ h p l e s m args below meth c g C0 H locs hP hS lsA hl)
theorem qw_step_iand (hok : qw_ok tw w K) {k : Nat → qw_L → List Value → qw_M → Prop} (hk : qw_On tw w K Y Q k) {pc : Nat} {ls : qw_L} {st : List Value} {σ : qw_M} (hd : qw_dec (qw_yb Y) pc (.iand)) (hF : qw_F tw w K Y Q k (.iand) pc ls st σ) : qw_Ev tw w K Y Q pc ls st σ := by
  have hd := qw_dec1 hd rfl
  intro p l e s m args below meth c g C0 H locs hP hS lsA hl
  obtain ⟨hx, hb, hret, hml, hown, hts, hlk, hI, hK, hE⟩ := id C0
  obtain ⟨hgood, hwf, hcok, htok, hkok⟩ := id hok
  obtain ⟨x, y, r, rfl, h⟩ := qw_i2_inv hF
  exact lv_iand hx hb hd (hk _ _ _ _ h p l e s m args below meth c g C0 H locs hP hS lsA hl)
theorem qw_step_ior (hok : qw_ok tw w K) {k : Nat → qw_L → List Value → qw_M → Prop} (hk : qw_On tw w K Y Q k) {pc : Nat} {ls : qw_L} {st : List Value} {σ : qw_M} (hd : qw_dec (qw_yb Y) pc (.ior)) (hF : qw_F tw w K Y Q k (.ior) pc ls st σ) : qw_Ev tw w K Y Q pc ls st σ := by
  have hd := qw_dec1 hd rfl
  intro p l e s m args below meth c g C0 H locs hP hS lsA hl
  obtain ⟨hx, hb, hret, hml, hown, hts, hlk, hI, hK, hE⟩ := id C0
  obtain ⟨hgood, hwf, hcok, htok, hkok⟩ := id hok
  obtain ⟨x, y, r, rfl, h⟩ := qw_i2_inv hF
  exact lv_ior hx hb hd (hk _ _ _ _ h p l e s m args below meth c g C0 H locs hP hS lsA hl)
theorem qw_step_ixor (hok : qw_ok tw w K) {k : Nat → qw_L → List Value → qw_M → Prop} (hk : qw_On tw w K Y Q k) {pc : Nat} {ls : qw_L} {st : List Value} {σ : qw_M} (hd : qw_dec (qw_yb Y) pc (.ixor)) (hF : qw_F tw w K Y Q k (.ixor) pc ls st σ) : qw_Ev tw w K Y Q pc ls st σ := by
  have hd := qw_dec1 hd rfl
  intro p l e s m args below meth c g C0 H locs hP hS lsA hl
  obtain ⟨hx, hb, hret, hml, hown, hts, hlk, hI, hK, hE⟩ := id C0
  obtain ⟨hgood, hwf, hcok, htok, hkok⟩ := id hok
  obtain ⟨x, y, r, rfl, h⟩ := qw_i2_inv hF
  exact lv_ixor hx hb hd (hk _ _ _ _ h p l e s m args below meth c g C0 H locs hP hS lsA hl)
theorem qw_step_ishl (hok : qw_ok tw w K) {k : Nat → qw_L → List Value → qw_M → Prop} (hk : qw_On tw w K Y Q k) {pc : Nat} {ls : qw_L} {st : List Value} {σ : qw_M} (hd : qw_dec (qw_yb Y) pc (.ishl)) (hF : qw_F tw w K Y Q k (.ishl) pc ls st σ) : qw_Ev tw w K Y Q pc ls st σ := by
  have hd := qw_dec1 hd rfl
  intro p l e s m args below meth c g C0 H locs hP hS lsA hl
  obtain ⟨hx, hb, hret, hml, hown, hts, hlk, hI, hK, hE⟩ := id C0
  obtain ⟨hgood, hwf, hcok, htok, hkok⟩ := id hok
  obtain ⟨x, y, r, rfl, h⟩ := qw_i2_inv hF
  exact lv_ishl hx hb hd (hk _ _ _ _ h p l e s m args below meth c g C0 H locs hP hS lsA hl)
theorem qw_step_ishr (hok : qw_ok tw w K) {k : Nat → qw_L → List Value → qw_M → Prop} (hk : qw_On tw w K Y Q k) {pc : Nat} {ls : qw_L} {st : List Value} {σ : qw_M} (hd : qw_dec (qw_yb Y) pc (.ishr)) (hF : qw_F tw w K Y Q k (.ishr) pc ls st σ) : qw_Ev tw w K Y Q pc ls st σ := by
  have hd := qw_dec1 hd rfl
  intro p l e s m args below meth c g C0 H locs hP hS lsA hl
  obtain ⟨hx, hb, hret, hml, hown, hts, hlk, hI, hK, hE⟩ := id C0
  obtain ⟨hgood, hwf, hcok, htok, hkok⟩ := id hok
  obtain ⟨x, y, r, rfl, h⟩ := qw_i2_inv hF
  exact lv_ishr hx hb hd (hk _ _ _ _ h p l e s m args below meth c g C0 H locs hP hS lsA hl)
theorem qw_step_iushr (hok : qw_ok tw w K) {k : Nat → qw_L → List Value → qw_M → Prop} (hk : qw_On tw w K Y Q k) {pc : Nat} {ls : qw_L} {st : List Value} {σ : qw_M} (hd : qw_dec (qw_yb Y) pc (.iushr)) (hF : qw_F tw w K Y Q k (.iushr) pc ls st σ) : qw_Ev tw w K Y Q pc ls st σ := by
  have hd := qw_dec1 hd rfl
  intro p l e s m args below meth c g C0 H locs hP hS lsA hl
  obtain ⟨hx, hb, hret, hml, hown, hts, hlk, hI, hK, hE⟩ := id C0
  obtain ⟨hgood, hwf, hcok, htok, hkok⟩ := id hok
  obtain ⟨x, y, r, rfl, h⟩ := qw_i2_inv hF
  exact lv_iushr hx hb hd rfl (hk _ _ _ _ h p l e s m args below meth c g C0 H locs hP hS lsA hl)
theorem qw_step_idiv (hok : qw_ok tw w K) {k : Nat → qw_L → List Value → qw_M → Prop} (hk : qw_On tw w K Y Q k) {pc : Nat} {ls : qw_L} {st : List Value} {σ : qw_M} (hd : qw_dec (qw_yb Y) pc (.idiv)) (hF : qw_F tw w K Y Q k (.idiv) pc ls st σ) : qw_Ev tw w K Y Q pc ls st σ := by
  have hd := qw_dec1 hd rfl
  intro p l e s m args below meth c g C0 H locs hP hS lsA hl
  obtain ⟨hx, hb, hret, hml, hown, hts, hlk, hI, hK, hE⟩ := id C0
  obtain ⟨hgood, hwf, hcok, htok, hkok⟩ := id hok
  obtain ⟨x, y, r, rfl, hne, h⟩ := qw_i2_inv hF
  exact lv_idiv hx hb hd hne (hk _ _ _ _ h p l e s m args below meth c g C0 H locs hP hS lsA hl)
theorem qw_step_irem (hok : qw_ok tw w K) {k : Nat → qw_L → List Value → qw_M → Prop} (hk : qw_On tw w K Y Q k) {pc : Nat} {ls : qw_L} {st : List Value} {σ : qw_M} (hd : qw_dec (qw_yb Y) pc (.irem)) (hF : qw_F tw w K Y Q k (.irem) pc ls st σ) : qw_Ev tw w K Y Q pc ls st σ := by
  have hd := qw_dec1 hd rfl
  intro p l e s m args below meth c g C0 H locs hP hS lsA hl
  obtain ⟨hx, hb, hret, hml, hown, hts, hlk, hI, hK, hE⟩ := id C0
  obtain ⟨hgood, hwf, hcok, htok, hkok⟩ := id hok
  obtain ⟨x, y, r, rfl, hne, h⟩ := qw_i2_inv hF
  exact lv_irem hx hb hd hne (hk _ _ _ _ h p l e s m args below meth c g C0 H locs hP hS lsA hl)
theorem qw_step_ladd (hok : qw_ok tw w K) {k : Nat → qw_L → List Value → qw_M → Prop} (hk : qw_On tw w K Y Q k) {pc : Nat} {ls : qw_L} {st : List Value} {σ : qw_M} (hd : qw_dec (qw_yb Y) pc (.ladd)) (hF : qw_F tw w K Y Q k (.ladd) pc ls st σ) : qw_Ev tw w K Y Q pc ls st σ := by
  have hd := qw_dec1 hd rfl
  intro p l e s m args below meth c g C0 H locs hP hS lsA hl
  obtain ⟨hx, hb, hret, hml, hown, hts, hlk, hI, hK, hE⟩ := id C0
  obtain ⟨hgood, hwf, hcok, htok, hkok⟩ := id hok
  obtain ⟨x, y, r, rfl, h⟩ := qw_l2_inv hF
  exact lv_ladd hx hb hd (hk _ _ _ _ h p l e s m args below meth c g C0 H locs hP hS lsA hl)
theorem qw_step_lsub (hok : qw_ok tw w K) {k : Nat → qw_L → List Value → qw_M → Prop} (hk : qw_On tw w K Y Q k) {pc : Nat} {ls : qw_L} {st : List Value} {σ : qw_M} (hd : qw_dec (qw_yb Y) pc (.lsub)) (hF : qw_F tw w K Y Q k (.lsub) pc ls st σ) : qw_Ev tw w K Y Q pc ls st σ := by
  have hd := qw_dec1 hd rfl
  intro p l e s m args below meth c g C0 H locs hP hS lsA hl
  obtain ⟨hx, hb, hret, hml, hown, hts, hlk, hI, hK, hE⟩ := id C0
  obtain ⟨hgood, hwf, hcok, htok, hkok⟩ := id hok
  obtain ⟨x, y, r, rfl, h⟩ := qw_l2_inv hF
  exact lv_lsub hx hb hd (hk _ _ _ _ h p l e s m args below meth c g C0 H locs hP hS lsA hl)
theorem qw_step_lmul (hok : qw_ok tw w K) {k : Nat → qw_L → List Value → qw_M → Prop} (hk : qw_On tw w K Y Q k) {pc : Nat} {ls : qw_L} {st : List Value} {σ : qw_M} (hd : qw_dec (qw_yb Y) pc (.lmul)) (hF : qw_F tw w K Y Q k (.lmul) pc ls st σ) : qw_Ev tw w K Y Q pc ls st σ := by
  have hd := qw_dec1 hd rfl
  intro p l e s m args below meth c g C0 H locs hP hS lsA hl
  obtain ⟨hx, hb, hret, hml, hown, hts, hlk, hI, hK, hE⟩ := id C0
  obtain ⟨hgood, hwf, hcok, htok, hkok⟩ := id hok
  obtain ⟨x, y, r, rfl, h⟩ := qw_l2_inv hF
  exact lv_lmul hx hb hd (hk _ _ _ _ h p l e s m args below meth c g C0 H locs hP hS lsA hl)
theorem qw_step_lcmp (hok : qw_ok tw w K) {k : Nat → qw_L → List Value → qw_M → Prop} (hk : qw_On tw w K Y Q k) {pc : Nat} {ls : qw_L} {st : List Value} {σ : qw_M} (hd : qw_dec (qw_yb Y) pc (.lcmp)) (hF : qw_F tw w K Y Q k (.lcmp) pc ls st σ) : qw_Ev tw w K Y Q pc ls st σ := by
  have hd := qw_dec1 hd rfl
  intro p l e s m args below meth c g C0 H locs hP hS lsA hl
  obtain ⟨hx, hb, hret, hml, hown, hts, hlk, hI, hK, hE⟩ := id C0
  obtain ⟨hgood, hwf, hcok, htok, hkok⟩ := id hok
  obtain ⟨x, y, r, rfl, h⟩ := qw_l2_inv hF
  exact W.lcmp hx hb hd (hk _ _ _ _ h p l e s m args below meth c g C0 H locs hP hS lsA hl)
theorem qw_step_ldiv (hok : qw_ok tw w K) {k : Nat → qw_L → List Value → qw_M → Prop} (hk : qw_On tw w K Y Q k) {pc : Nat} {ls : qw_L} {st : List Value} {σ : qw_M} (hd : qw_dec (qw_yb Y) pc (.ldiv)) (hF : qw_F tw w K Y Q k (.ldiv) pc ls st σ) : qw_Ev tw w K Y Q pc ls st σ := by
  have hd := qw_dec1 hd rfl
  intro p l e s m args below meth c g C0 H locs hP hS lsA hl
  obtain ⟨hx, hb, hret, hml, hown, hts, hlk, hI, hK, hE⟩ := id C0
  obtain ⟨hgood, hwf, hcok, htok, hkok⟩ := id hok
  obtain ⟨x, y, r, rfl, hne, h⟩ := qw_l2_inv hF
  exact lv_ldiv hx hb hd hne (hk _ _ _ _ h p l e s m args below meth c g C0 H locs hP hS lsA hl)
theorem qw_step_lrem (hok : qw_ok tw w K) {k : Nat → qw_L → List Value → qw_M → Prop} (hk : qw_On tw w K Y Q k) {pc : Nat} {ls : qw_L} {st : List Value} {σ : qw_M} (hd : qw_dec (qw_yb Y) pc (.lrem)) (hF : qw_F tw w K Y Q k (.lrem) pc ls st σ) : qw_Ev tw w K Y Q pc ls st σ := by
  have hd := qw_dec1 hd rfl
  intro p l e s m args below meth c g C0 H locs hP hS lsA hl
  obtain ⟨hx, hb, hret, hml, hown, hts, hlk, hI, hK, hE⟩ := id C0
  obtain ⟨hgood, hwf, hcok, htok, hkok⟩ := id hok
  obtain ⟨x, y, r, rfl, hne, h⟩ := qw_l2_inv hF
  exact lv_lrem hx hb hd hne (hk _ _ _ _ h p l e s m args below meth c g C0 H locs hP hS lsA hl)
theorem qw_step_lshl (hok : qw_ok tw w K) {k : Nat → qw_L → List Value → qw_M → Prop} (hk : qw_On tw w K Y Q k) {pc : Nat} {ls : qw_L} {st : List Value} {σ : qw_M} (hd : qw_dec (qw_yb Y) pc (.lshl)) (hF : qw_F tw w K Y Q k (.lshl) pc ls st σ) : qw_Ev tw w K Y Q pc ls st σ := by
  have hd := qw_dec1 hd rfl
  intro p l e s m args below meth c g C0 H locs hP hS lsA hl
  obtain ⟨hx, hb, hret, hml, hown, hts, hlk, hI, hK, hE⟩ := id C0
  obtain ⟨hgood, hwf, hcok, htok, hkok⟩ := id hok
  dsimp only [qw_F] at hF
  split at hF <;> try exact False.elim hF
  exact lv_lshl hx hb hd rfl (hk _ _ _ _ hF p l e s m args below meth c g C0 H locs hP hS lsA hl)
theorem qw_step_i2l (hok : qw_ok tw w K) {k : Nat → qw_L → List Value → qw_M → Prop} (hk : qw_On tw w K Y Q k) {pc : Nat} {ls : qw_L} {st : List Value} {σ : qw_M} (hd : qw_dec (qw_yb Y) pc (.i2l)) (hF : qw_F tw w K Y Q k (.i2l) pc ls st σ) : qw_Ev tw w K Y Q pc ls st σ := by
  have hd := qw_dec1 hd rfl
  intro p l e s m args below meth c g C0 H locs hP hS lsA hl
  obtain ⟨hx, hb, hret, hml, hown, hts, hlk, hI, hK, hE⟩ := id C0
  obtain ⟨hgood, hwf, hcok, htok, hkok⟩ := id hok
  obtain ⟨x, r, rfl, h⟩ := qw_i1_inv hF
  exact lv_i2l hx hb hd rfl (hk _ _ _ _ h p l e s m args below meth c g C0 H locs hP hS lsA hl)
theorem qw_step_i2b (hok : qw_ok tw w K) {k : Nat → qw_L → List Value → qw_M → Prop} (hk : qw_On tw w K Y Q k) {pc : Nat} {ls : qw_L} {st : List Value} {σ : qw_M} (hd : qw_dec (qw_yb Y) pc (.i2b)) (hF : qw_F tw w K Y Q k (.i2b) pc ls st σ) : qw_Ev tw w K Y Q pc ls st σ := by
  have hd := qw_dec1 hd rfl
  intro p l e s m args below meth c g C0 H locs hP hS lsA hl
  obtain ⟨hx, hb, hret, hml, hown, hts, hlk, hI, hK, hE⟩ := id C0
  obtain ⟨hgood, hwf, hcok, htok, hkok⟩ := id hok
  obtain ⟨x, r, rfl, h⟩ := qw_i1_inv hF
  exact lv_i2b hx hb hd rfl (hk _ _ _ _ h p l e s m args below meth c g C0 H locs hP hS lsA hl)
theorem qw_step_i2s (hok : qw_ok tw w K) {k : Nat → qw_L → List Value → qw_M → Prop} (hk : qw_On tw w K Y Q k) {pc : Nat} {ls : qw_L} {st : List Value} {σ : qw_M} (hd : qw_dec (qw_yb Y) pc (.i2s)) (hF : qw_F tw w K Y Q k (.i2s) pc ls st σ) : qw_Ev tw w K Y Q pc ls st σ := by
  have hd := qw_dec1 hd rfl
  intro p l e s m args below meth c g C0 H locs hP hS lsA hl
  obtain ⟨hx, hb, hret, hml, hown, hts, hlk, hI, hK, hE⟩ := id C0
  obtain ⟨hgood, hwf, hcok, htok, hkok⟩ := id hok
  obtain ⟨x, r, rfl, h⟩ := qw_i1_inv hF
  exact lv_i2s hx hb hd rfl (hk _ _ _ _ h p l e s m args below meth c g C0 H locs hP hS lsA hl)
theorem qw_step_i2c (hok : qw_ok tw w K) {k : Nat → qw_L → List Value → qw_M → Prop} (hk : qw_On tw w K Y Q k) {pc : Nat} {ls : qw_L} {st : List Value} {σ : qw_M} (hd : qw_dec (qw_yb Y) pc (.i2c)) (hF : qw_F tw w K Y Q k (.i2c) pc ls st σ) : qw_Ev tw w K Y Q pc ls st σ := by
  have hd := qw_dec1 hd rfl
  intro p l e s m args below meth c g C0 H locs hP hS lsA hl
  obtain ⟨hx, hb, hret, hml, hown, hts, hlk, hI, hK, hE⟩ := id C0
  obtain ⟨hgood, hwf, hcok, htok, hkok⟩ := id hok
  obtain ⟨x, r, rfl, h⟩ := qw_i1_inv hF
  exact lv_i2c hx hb hd rfl (hk _ _ _ _ h p l e s m args below meth c g C0 H locs hP hS lsA hl)
theorem qw_step_dup (hok : qw_ok tw w K) {k : Nat → qw_L → List Value → qw_M → Prop} (hk : qw_On tw w K Y Q k) {pc : Nat} {ls : qw_L} {st : List Value} {σ : qw_M} (hd : qw_dec (qw_yb Y) pc (.dup)) (hF : qw_F tw w K Y Q k (.dup) pc ls st σ) : qw_Ev tw w K Y Q pc ls st σ := by
  have hd := qw_dec1 hd rfl
  intro p l e s m args below meth c g C0 H locs hP hS lsA hl
  obtain ⟨hx, hb, hret, hml, hown, hts, hlk, hI, hK, hE⟩ := id C0
  obtain ⟨hgood, hwf, hcok, htok, hkok⟩ := id hok
  dsimp only [qw_F] at hF
  split at hF <;> try exact False.elim hF
  all_goals exact lv_dup hx hb hd rfl (hk _ _ _ _ hF p l e s m args below meth c g C0 H locs hP hS lsA hl)
theorem qw_step_pop (hok : qw_ok tw w K) {k : Nat → qw_L → List Value → qw_M → Prop} (hk : qw_On tw w K Y Q k) {pc : Nat} {ls : qw_L} {st : List Value} {σ : qw_M} (hd : qw_dec (qw_yb Y) pc (.pop)) (hF : qw_F tw w K Y Q k (.pop) pc ls st σ) : qw_Ev tw w K Y Q pc ls st σ := by
  have hd := qw_dec1 hd rfl
  intro p l e s m args below meth c g C0 H locs hP hS lsA hl
  obtain ⟨hx, hb, hret, hml, hown, hts, hlk, hI, hK, hE⟩ := id C0
  obtain ⟨hgood, hwf, hcok, htok, hkok⟩ := id hok
  dsimp only [qw_F] at hF
  split at hF <;> try exact False.elim hF
  all_goals exact lv_pop hx hb hd rfl (hk _ _ _ _ hF p l e s m args below meth c g C0 H locs hP hS lsA hl)
theorem qw_step_dup2 (hok : qw_ok tw w K) {k : Nat → qw_L → List Value → qw_M → Prop} (hk : qw_On tw w K Y Q k) {pc : Nat} {ls : qw_L} {st : List Value} {σ : qw_M} (hd : qw_dec (qw_yb Y) pc (.dup2)) (hF : qw_F tw w K Y Q k (.dup2) pc ls st σ) : qw_Ev tw w K Y Q pc ls st σ := by
  have hd := qw_dec1 hd rfl
  intro p l e s m args below meth c g C0 H locs hP hS lsA hl
  obtain ⟨hx, hb, hret, hml, hown, hts, hlk, hI, hK, hE⟩ := id C0
  obtain ⟨hgood, hwf, hcok, htok, hkok⟩ := id hok
  dsimp only [qw_F] at hF
  split at hF <;> try exact False.elim hF
  all_goals exact lv_dup2_11 hx hb hd rfl rfl (hk _ _ _ _ hF p l e s m args below meth c g C0 H locs hP hS lsA hl)
theorem qw_step_goto (hok : qw_ok tw w K) {k : Nat → qw_L → List Value → qw_M → Prop} (hk : qw_On tw w K Y Q k) {pc : Nat} {ls : qw_L} {st : List Value} {σ : qw_M} {off : Int} (hd : qw_dec (qw_yb Y) pc (.goto off)) (hF : qw_F tw w K Y Q k (.goto off) pc ls st σ) : qw_Ev tw w K Y Q pc ls st σ := by
  have hd := qw_dec1 hd rfl
  intro p l e s m args below meth c g C0 H locs hP hS lsA hl
  obtain ⟨hx, hb, hret, hml, hown, hts, hlk, hI, hK, hE⟩ := id C0
  obtain ⟨hgood, hwf, hcok, htok, hkok⟩ := id hok
  obtain ⟨t, ht, h⟩ := qw_tg_inv hF
  exact lv_goto hx hb hd ht (hk _ _ _ _ h p l e s m args below meth c g C0 H locs hP hS lsA hl)
theorem qw_step_ifCond (hok : qw_ok tw w K) {k : Nat → qw_L → List Value → qw_M → Prop} (hk : qw_On tw w K Y Q k) {pc : Nat} {ls : qw_L} {st : List Value} {σ : qw_M} {cd : ClassFile.Cond} {off : Int} (hd : qw_dec (qw_yb Y) pc (.ifCond cd off)) (hF : qw_F tw w K Y Q k (.ifCond cd off) pc ls st σ) : qw_Ev tw w K Y Q pc ls st σ := by
  have hd := qw_dec1 hd rfl
  intro p l e s m args below meth c g C0 H locs hP hS lsA hl
  obtain ⟨hx, hb, hret, hml, hown, hts, hlk, hI, hK, hE⟩ := id C0
  obtain ⟨hgood, hwf, hcok, htok, hkok⟩ := id hok
  obtain ⟨t, ht, hF⟩ := qw_tg_inv hF
  obtain ⟨x, r, rfl, h⟩ := qw_i1_inv hF
  cases cd
  case eq =>
    obtain ⟨h1, h2⟩ := qw_Ev.br h (fun z => hk _ _ _ _ z p l e s m args below meth c g C0 H locs hP hS lsA hl) (fun z => hk _ _ _ _ z p l e s m args below meth c g C0 H locs hP hS lsA hl)
    exact lv_if_eq hx hb hd ht h1 h2
  case ne =>
    obtain ⟨h1, h2⟩ := qw_Ev.nb h (fun z => hk _ _ _ _ z p l e s m args below meth c g C0 H locs hP hS lsA hl) (fun z => hk _ _ _ _ z p l e s m args below meth c g C0 H locs hP hS lsA hl)
    exact lv_if_ne hx hb hd ht h1 h2
  case lt =>
    obtain ⟨h1, h2⟩ := qw_Ev.br h (fun z => hk _ _ _ _ z p l e s m args below meth c g C0 H locs hP hS lsA hl) (fun z => hk _ _ _ _ z p l e s m args below meth c g C0 H locs hP hS lsA hl)
    exact lv_if_lt hx hb hd ht h1 h2
  case ge =>
    obtain ⟨h1, h2⟩ := qw_Ev.br h (fun z => hk _ _ _ _ z p l e s m args below meth c g C0 H locs hP hS lsA hl) (fun z => hk _ _ _ _ z p l e s m args below meth c g C0 H locs hP hS lsA hl)
    exact lv_if_ge hx hb hd ht h1 h2
  case gt =>
    obtain ⟨h1, h2⟩ := qw_Ev.br h (fun z => hk _ _ _ _ z p l e s m args below meth c g C0 H locs hP hS lsA hl) (fun z => hk _ _ _ _ z p l e s m args below meth c g C0 H locs hP hS lsA hl)
    exact lv_if_gt hx hb hd ht h1 h2
  case le =>
    obtain ⟨h1, h2⟩ := qw_Ev.br h (fun z => hk _ _ _ _ z p l e s m args below meth c g C0 H locs hP hS lsA hl) (fun z => hk _ _ _ _ z p l e s m args below meth c g C0 H locs hP hS lsA hl)
    exact lv_if_le hx hb hd ht h1 h2
theorem qw_step_if_icmp (hok : qw_ok tw w K) {k : Nat → qw_L → List Value → qw_M → Prop} (hk : qw_On tw w K Y Q k) {pc : Nat} {ls : qw_L} {st : List Value} {σ : qw_M} {cd : ClassFile.Cond} {off : Int} (hd : qw_dec (qw_yb Y) pc (.if_icmp cd off)) (hF : qw_F tw w K Y Q k (.if_icmp cd off) pc ls st σ) : qw_Ev tw w K Y Q pc ls st σ := by
  have hd := qw_dec1 hd rfl
  intro p l e s m args below meth c g C0 H locs hP hS lsA hl
  obtain ⟨hx, hb, hret, hml, hown, hts, hlk, hI, hK, hE⟩ := id C0
  obtain ⟨hgood, hwf, hcok, htok, hkok⟩ := id hok
  obtain ⟨t, ht, hF⟩ := qw_tg_inv hF
  obtain ⟨x, y, r, rfl, h⟩ := qw_i2_inv hF
  cases cd
  case eq =>
    obtain ⟨h1, h2⟩ := qw_Ev.br h (fun z => hk _ _ _ _ z p l e s m args below meth c g C0 H locs hP hS lsA hl) (fun z => hk _ _ _ _ z p l e s m args below meth c g C0 H locs hP hS lsA hl)
    exact lv_icmp_eq hx hb hd ht h1 h2
  case ne =>
    obtain ⟨h1, h2⟩ := qw_Ev.nb h (fun z => hk _ _ _ _ z p l e s m args below meth c g C0 H locs hP hS lsA hl) (fun z => hk _ _ _ _ z p l e s m args below meth c g C0 H locs hP hS lsA hl)
    exact lv_icmp_ne hx hb hd ht h1 h2
  case lt =>
    obtain ⟨h1, h2⟩ := qw_Ev.br h (fun z => hk _ _ _ _ z p l e s m args below meth c g C0 H locs hP hS lsA hl) (fun z => hk _ _ _ _ z p l e s m args below meth c g C0 H locs hP hS lsA hl)
    exact lv_icmp_lt hx hb hd ht h1 h2
  case ge =>
    obtain ⟨h1, h2⟩ := qw_Ev.br h (fun z => hk _ _ _ _ z p l e s m args below meth c g C0 H locs hP hS lsA hl) (fun z => hk _ _ _ _ z p l e s m args below meth c g C0 H locs hP hS lsA hl)
    exact lv_icmp_ge hx hb hd ht h1 h2
  case gt =>
    obtain ⟨h1, h2⟩ := qw_Ev.br h (fun z => hk _ _ _ _ z p l e s m args below meth c g C0 H locs hP hS lsA hl) (fun z => hk _ _ _ _ z p l e s m args below meth c g C0 H locs hP hS lsA hl)
    exact lv_icmp_gt hx hb hd ht h1 h2
  case le =>
    obtain ⟨h1, h2⟩ := qw_Ev.br h (fun z => hk _ _ _ _ z p l e s m args below meth c g C0 H locs hP hS lsA hl) (fun z => hk _ _ _ _ z p l e s m args below meth c g C0 H locs hP hS lsA hl)
    exact lv_icmp_le hx hb hd ht h1 h2
theorem qw_step_ifnull (hok : qw_ok tw w K) {k : Nat → qw_L → List Value → qw_M → Prop} (hk : qw_On tw w K Y Q k) {pc : Nat} {ls : qw_L} {st : List Value} {σ : qw_M} {off : Int} (hd : qw_dec (qw_yb Y) pc (.ifnull off)) (hF : qw_F tw w K Y Q k (.ifnull off) pc ls st σ) : qw_Ev tw w K Y Q pc ls st σ := by
  have hd := qw_dec1 hd rfl
  intro p l e s m args below meth c g C0 H locs hP hS lsA hl
  obtain ⟨hx, hb, hret, hml, hown, hts, hlk, hI, hK, hE⟩ := id C0
  obtain ⟨hgood, hwf, hcok, htok, hkok⟩ := id hok
  obtain ⟨t, ht, hF⟩ := qw_tg_inv hF
  split at hF <;> try exact False.elim hF
  · exact lv_ifnull hx hb hd (hk _ _ _ _ hF p l e s m args below meth c g C0 H locs hP hS lsA hl)
  · exact lv_ifnullN hx hb hd ht (hk _ _ _ _ hF p l e s m args below meth c g C0 H locs hP hS lsA hl)
theorem qw_step_ifnonnull (hok : qw_ok tw w K) {k : Nat → qw_L → List Value → qw_M → Prop} (hk : qw_On tw w K Y Q k) {pc : Nat} {ls : qw_L} {st : List Value} {σ : qw_M} {off : Int} (hd : qw_dec (qw_yb Y) pc (.ifnonnull off)) (hF : qw_F tw w K Y Q k (.ifnonnull off) pc ls st σ) : qw_Ev tw w K Y Q pc ls st σ := by
  have hd := qw_dec1 hd rfl
  intro p l e s m args below meth c g C0 H locs hP hS lsA hl
  obtain ⟨hx, hb, hret, hml, hown, hts, hlk, hI, hK, hE⟩ := id C0
  obtain ⟨hgood, hwf, hcok, htok, hkok⟩ := id hok
  obtain ⟨t, ht, hF⟩ := qw_tg_inv hF
  split at hF <;> try exact False.elim hF
  · exact lv_ifnonnull hx hb hd ht (hk _ _ _ _ hF p l e s m args below meth c g C0 H locs hP hS lsA hl)
  · exact lv_ifnonnullN hx hb hd (hk _ _ _ _ hF p l e s m args below meth c g C0 H locs hP hS lsA hl)
theorem qw_step_tableswitch (hok : qw_ok tw w K) {k : Nat → qw_L → List Value → qw_M → Prop} (hk : qw_On tw w K Y Q k) {pc : Nat} {ls : qw_L} {st : List Value} {σ : qw_M} {d lo hi : Int} {offs : Array Int} (hd : qw_dec (qw_yb Y) pc (.tableswitch d lo hi offs)) (hF : qw_F tw w K Y Q k (.tableswitch d lo hi offs) pc ls st σ) : qw_Ev tw w K Y Q pc ls st σ := by
  intro p l e s m args below meth c g C0 H locs hP hS lsA hl
  obtain ⟨hx, hb, hret, hml, hown, hts, hlk, hI, hK, hE⟩ := id C0
  obtain ⟨hgood, hwf, hcok, htok, hkok⟩ := id hok
  obtain ⟨n, hd, -⟩ := hd
  obtain ⟨x, r, rfl, h1, h2, h3⟩ := qw_i1_inv hF
  by_cases hc : x.toInt < lo ∨ hi < x.toInt
  · obtain ⟨t, ht, h⟩ := qw_tg_inv (h1 hc)
    exact lv_tableOut hx hb hd hc ht (hk _ _ _ _ h p l e s m args below meth c g C0 H locs hP hS lsA hl)
  · have hc1 : ¬ x.toInt < lo := fun z => hc (Or.inl z)
    have hc2 : ¬ hi < x.toInt := fun z => hc (Or.inr z)
    have hlt : (x.toInt - lo).toNat < offs.size := by omega
    have ho : offs[(x.toInt - lo).toNat]? = some offs[(x.toInt - lo).toNat] := Array.getElem?_eq_getElem hlt
    obtain ⟨t, ht, h⟩ := qw_tg_inv (qw_sw_inv h3 (x.toInt - lo).toNat offs[(x.toInt - lo).toNat] (by rw [← Array.getElem?_toList] at ho; exact ho) (by omega))
    exact lv_tableIn hx hb hd hc1 hc2 ho ht (hk _ _ _ _ h p l e s m args below meth c g C0 H locs hP hS lsA hl)
theorem qw_step_getstatic (hok : qw_ok tw w K) {k : Nat → qw_L → List Value → qw_M → Prop} (hk : qw_On tw w K Y Q k) {pc : Nat} {ls : qw_L} {st : List Value} {σ : qw_M} {j : Nat} (hd : qw_dec (qw_yb Y) pc (.getstatic j)) (hF : qw_F tw w K Y Q k (.getstatic j) pc ls st σ) : qw_Ev tw w K Y Q pc ls st σ := by
  have hd := qw_dec1 hd rfl
  intro p l e s m args below meth c g C0 H locs hP hS lsA hl
  obtain ⟨hx, hb, hret, hml, hown, hts, hlk, hI, hK, hE⟩ := id C0
  obtain ⟨hgood, hwf, hcok, htok, hkok⟩ := id hok
  dsimp only [qw_F] at hF
  cases hq : qw_lk (qw_kg K) j with
  | none => simp only [hq] at hF
  | some q =>
    simp only [hq] at hF
    cases hz : (qw_sta w)[q]? with
    | none => simp only [hz] at hF
    | some z =>
      simp only [hz] at hF
      split at hF <;> try exact False.elim hF
      rename_i x hv
      have h1 := hE.2.2.1 z (List.mem_of_getElem? hz)
      rw [hv] at h1
      exact va_gets hx hb h1 hS hown (hts _ (List.mem_cons_of_mem _ (hkok.2.2.2.2.1 j q z hq hz))) (fun _ h9 => h9) hd (hk _ _ _ _ hF p l e s m args below meth c g C0 H locs hP hS lsA hl)
theorem qw_step_getfield (hok : qw_ok tw w K) {k : Nat → qw_L → List Value → qw_M → Prop} (hk : qw_On tw w K Y Q k) {pc : Nat} {ls : qw_L} {st : List Value} {σ : qw_M} {j : Nat} (hd : qw_dec (qw_yb Y) pc (.getfield j)) (hF : qw_F tw w K Y Q k (.getfield j) pc ls st σ) : qw_Ev tw w K Y Q pc ls st σ := by
  have hd := qw_dec1 hd rfl
  intro p l e s m args below meth c g C0 H locs hP hS lsA hl
  obtain ⟨hx, hb, hret, hml, hown, hts, hlk, hI, hK, hE⟩ := id C0
  obtain ⟨hgood, hwf, hcok, htok, hkok⟩ := id hok
  obtain ⟨o, r, rfl, h⟩ := qw_o1_inv hF
  split at h
  · rename_i e1
    cases hq : qw_lk (qw_kf K) j with
    | none => simp only [hq] at h
    | some q =>
      simp only [hq] at h
      have h := qw_rw_inv h
      split at h <;> try exact False.elim h
      rename_i c0 e2
      split at h <;> try exact False.elim h
      rename_i v e3 e4
      obtain ⟨cc0, g1, g2, g3⟩ := hkok.1 j q hq
      refine (qw_cell hP hE hS (qw_lt e1)).elim ?_ (fun ⟨N0, ec, hT0⟩ => ?_)
      rotate_left
      · rw [e2] at ec; cases ec
      rintro ⟨ws, q0, hPw, hq0⟩
      rw [e2] at hq0
      have e3 := Nat.eq_of_beq_eq_true e3
      obtain ⟨g4, g5, g6, g7⟩ := hcok q.1 cc0 g1
      have h8 : (c0.2.map (qw_rv g.2.1))[q.2]? = some (qw_rv g.2.1 v) := by rw [List.getElem?_map, e4]; rfl
      rcases g3 with g3 | ⟨host, g3⟩
      · exact va_get hx hb hts (fun x hx => List.mem_cons_of_mem _ (g6 x hx)) hown hK hPw q0 hq0 (by rw [e3]; exact g1) q.2 g2 (hts _ (List.mem_cons_of_mem _ g3)) (fun _ h9 => h9) h8 hd (hk _ _ _ _ h p l e s m args below meth c g C0 H locs hP hS lsA hl)
      · exact va_getN hx hb hts (fun x hx => List.mem_cons_of_mem _ (g6 x hx)) hown hK hPw q0 hq0 (by rw [e3]; exact g1) q.2 g2 (va_Nw.use rfl (hE.2.2.2.1 _ g3)) (fun _ h9 => h9) h8 hd (hk _ _ _ _ h p l e s m args below meth c g C0 H locs hP hS lsA hl)
  · rename_i e1
    split at h <;> try exact False.elim h
    · rename_i e2 e3
      have ho : qw_n w + qw_nR w + (o - (qw_n w + qw_nR w)) = o := by
        rcases Nat.lt_or_ge o (qw_n w + qw_nR w) with z | z
        · exact absurd (Nat.ble_eq_true_of_le z) (by show ¬ Nat.blt o (qw_n w + qw_nR w) = true; rw [e1]; decide)
        · omega
      have h1 := (hE.2.2.2.2.1 _ (qw_lt e3)).2.1
      rw [ho] at h1
      exact vk_getf hx hb h1 hS hown (hts _ (List.mem_cons_of_mem _ ((hkok.2.2.2.2.2.2.2 j _ e2).1 rfl))) (fun _ h9 => h9) hd (hk _ _ _ _ h p l e s m args below meth c g C0 H locs hP hS lsA hl)
    · rename_i e2 e3
      have ho : qw_n w + qw_nR w + (o - (qw_n w + qw_nR w)) = o := by
        rcases Nat.lt_or_ge o (qw_n w + qw_nR w) with z | z
        · exact absurd (Nat.ble_eq_true_of_le z) (by show ¬ Nat.blt o (qw_n w + qw_nR w) = true; rw [e1]; decide)
        · omega
      have h1 := (hE.2.2.2.2.1 _ (qw_lt e3)).2.2
      rw [ho] at h1
      exact vk_getf hx hb h1 hS hown (hts _ (List.mem_cons_of_mem _ ((hkok.2.2.2.2.2.2.2 j _ e2).2 rfl))) (fun _ h9 => h9) hd (hk _ _ _ _ h p l e s m args below meth c g C0 H locs hP hS lsA hl)
theorem qw_step_putfield (hok : qw_ok tw w K) {k : Nat → qw_L → List Value → qw_M → Prop} (hk : qw_On tw w K Y Q k) {pc : Nat} {ls : qw_L} {st : List Value} {σ : qw_M} {j : Nat} (hd : qw_dec (qw_yb Y) pc (.putfield j)) (hF : qw_F tw w K Y Q k (.putfield j) pc ls st σ) : qw_Ev tw w K Y Q pc ls st σ := by
  have hd := qw_dec1 hd rfl
  intro p l e s m args below meth c g C0 H locs hP hS lsA hl
  obtain ⟨hx, hb, hret, hml, hown, hts, hlk, hI, hK, hE⟩ := id C0
  obtain ⟨hgood, hwf, hcok, htok, hkok⟩ := id hok
  dsimp only [qw_F] at hF
  cases hq : qw_lk (qw_kf K) j with
  | none => simp only [hq] at hF
  | some q =>
    simp only [hq] at hF
    split at hF <;> try exact False.elim hF
    · rename_i x o r
      split at hF <;> try exact False.elim hF
      rename_i c0 e1 e2
      split at hF <;> try exact False.elim hF
      rename_i e3 e4
      have e3 := Nat.eq_of_beq_eq_true e3
      have e4 := Nat.eq_of_beq_eq_true e4
      obtain ⟨cc0, g1, g2, g3⟩ := hkok.1 j q hq
      obtain ⟨⟨ty0, g4⟩, g5, g6, g7⟩ := hcok q.1 cc0 g1
      obtain ⟨k1, k2, k3⟩ := (g7 q.2).1 e4
      obtain ⟨k4, k5⟩ := (hwf.2 o (σ o) c0 e2 q.2).1 (by rw [e3]; exact e4)
      have hq0 := qw_ws_at (w := w) (g := g) (σ := σ) (qw_lt e1)
      rw [e2] at hq0
      have kk : ∀ (H1 : Heap) (locs1 : List Loc), va_P g.1 (qw_cl w) ((qw_ws w g σ).set o (g.2.1 o, .inr (c0.1, (c0.2.map (qw_rv g.2.1)).set q.2 (.int x)))) H1 → va_D (qw_A w g) ((qw_ws w g σ).set o (g.2.1 o, .inr (c0.1, (c0.2.map (qw_rv g.2.1)).set q.2 (.int x)))) → va_S (qw_A w g) s.heap H1 locs1 → W p l e (qw_rm Y) s m args below meth c H1 locs1 0 0 (MQ below (qw_Z w g Y Q) args s 0 0 (qw_A w g)) (F0 m (pc + 3) lsA (r.map (qw_rv g.2.1))) := fun H1 locs1 hP1 hD1 hS1 =>
        hk _ _ _ _ hF p l e s m args below meth c g C0 H1 locs1 (qw_P.put (qw_lt e1) (by rw [k5 x]; simp only [qw_re, List.map_set]; rfl) hP1) hS1 lsA hl
      rcases g3 with g3 | ⟨host, g3⟩
      · exact va_put hx hb hts (fun x hx => List.mem_cons_of_mem _ (g6 x hx)) ty0 g4 g5 hown hK hP (qw_D hI) hS o hq0 (by rw [e3]; exact g1) q.2 k1 (hts _ (List.mem_cons_of_mem _ g3)) (fun _ h9 => h9) k3 k2 (v := .int x) rfl rfl (by rw [List.length_map]; exact k4) hd kk
      · exact va_putN hx hb hts (fun x hx => List.mem_cons_of_mem _ (g6 x hx)) ty0 g4 g5 hown hK hP (qw_D hI) hS o hq0 (by rw [e3]; exact g1) q.2 k1 (va_Nw.use rfl (hE.2.2.2.1 _ g3)) (fun _ h9 => h9) k3 k2 (v := .int x) rfl rfl (by rw [List.length_map]; exact k4) hd kk
    · rename_i x o r
      split at hF <;> try exact False.elim hF
      rename_i c0 e1 e2
      split at hF <;> try exact False.elim hF
      rename_i e3 e4
      have e3 := Nat.eq_of_beq_eq_true e3
      have e4 := Nat.eq_of_beq_eq_true e4
      obtain ⟨cc0, g1, g2, g3⟩ := hkok.1 j q hq
      obtain ⟨⟨ty0, g4⟩, g5, g6, g7⟩ := hcok q.1 cc0 g1
      obtain ⟨k1, k2, k3⟩ := (g7 q.2).2 e4
      obtain ⟨k4, k5⟩ := (hwf.2 o (σ o) c0 e2 q.2).2 (by rw [e3]; exact e4)
      have hq0 := qw_ws_at (w := w) (g := g) (σ := σ) (qw_lt e1)
      rw [e2] at hq0
      have kk : ∀ (H1 : Heap) (locs1 : List Loc), va_P g.1 (qw_cl w) ((qw_ws w g σ).set o (g.2.1 o, .inr (c0.1, (c0.2.map (qw_rv g.2.1)).set q.2 (.long x)))) H1 → va_D (qw_A w g) ((qw_ws w g σ).set o (g.2.1 o, .inr (c0.1, (c0.2.map (qw_rv g.2.1)).set q.2 (.long x)))) → va_S (qw_A w g) s.heap H1 locs1 → W p l e (qw_rm Y) s m args below meth c H1 locs1 0 0 (MQ below (qw_Z w g Y Q) args s 0 0 (qw_A w g)) (F0 m (pc + 3) lsA (r.map (qw_rv g.2.1))) := fun H1 locs1 hP1 hD1 hS1 =>
        hk _ _ _ _ hF p l e s m args below meth c g C0 H1 locs1 (qw_P.put (qw_lt e1) (by rw [k5 x]; simp only [qw_re, List.map_set]; rfl) hP1) hS1 lsA hl
      rcases g3 with g3 | ⟨host, g3⟩
      · exact va_put hx hb hts (fun x hx => List.mem_cons_of_mem _ (g6 x hx)) ty0 g4 g5 hown hK hP (qw_D hI) hS o hq0 (by rw [e3]; exact g1) q.2 k1 (hts _ (List.mem_cons_of_mem _ g3)) (fun _ h9 => h9) k3 k2 (v := .long x) rfl rfl (by rw [List.length_map]; exact k4) hd kk
      · exact va_putN hx hb hts (fun x hx => List.mem_cons_of_mem _ (g6 x hx)) ty0 g4 g5 hown hK hP (qw_D hI) hS o hq0 (by rw [e3]; exact g1) q.2 k1 (va_Nw.use rfl (hE.2.2.2.1 _ g3)) (fun _ h9 => h9) k3 k2 (v := .long x) rfl rfl (by rw [List.length_map]; exact k4) hd kk
theorem qw_step_arraylength (hok : qw_ok tw w K) {k : Nat → qw_L → List Value → qw_M → Prop} (hk : qw_On tw w K Y Q k) {pc : Nat} {ls : qw_L} {st : List Value} {σ : qw_M} (hd : qw_dec (qw_yb Y) pc (.arraylength)) (hF : qw_F tw w K Y Q k (.arraylength) pc ls st σ) : qw_Ev tw w K Y Q pc ls st σ := by
  have hd := qw_dec1 hd rfl
  intro p l e s m args below meth c g C0 H locs hP hS lsA hl
  obtain ⟨hx, hb, hret, hml, hown, hts, hlk, hI, hK, hE⟩ := id C0
  obtain ⟨hgood, hwf, hcok, htok, hkok⟩ := id hok
  obtain ⟨o, r, rfl, h⟩ := qw_o1_inv hF
  split at h <;> try exact False.elim h
  rename_i e1
  have h := qw_rw_inv h
  split at h <;> try exact False.elim h
  rename_i q e2
  split at h <;> try exact False.elim h
  rename_i e3
  refine (qw_cell hP hE hS (qw_lt e1)).elim ?_ (fun ⟨N0, ec, hT0⟩ => ?_)
  rotate_left
  · rw [e2] at ec; cases ec; exact va_tlen hx hb hT0 hS rfl hd (hk _ _ _ _ h p l e s m args below meth c g C0 H locs hP hS lsA hl)
  rintro ⟨ws, q0, hPw, hq0⟩
  rw [e2] at hq0
  exact va_alen hx hb hK hPw q0 q.1 hq0 (qw_ts_at (qw_lt e3)) rfl hd (hk _ _ _ _ h p l e s m args below meth c g C0 H locs hP hS lsA hl)
theorem qw_step_iaload (hok : qw_ok tw w K) {k : Nat → qw_L → List Value → qw_M → Prop} (hk : qw_On tw w K Y Q k) {pc : Nat} {ls : qw_L} {st : List Value} {σ : qw_M} (hd : qw_dec (qw_yb Y) pc (.iaload)) (hF : qw_F tw w K Y Q k (.iaload) pc ls st σ) : qw_Ev tw w K Y Q pc ls st σ := by
  have hd := qw_dec1 hd rfl
  intro p l e s m args below meth c g C0 H locs hP hS lsA hl
  obtain ⟨hx, hb, hret, hml, hown, hts, hlk, hI, hK, hE⟩ := id C0
  obtain ⟨hgood, hwf, hcok, htok, hkok⟩ := id hok
  dsimp only [qw_F] at hF
  split at hF <;> try exact False.elim hF
  rename_i i o r
  split at hF <;> try exact False.elim hF
  rename_i e1
  have hF := qw_rw_inv hF
  split at hF <;> try exact False.elim hF
  rename_i q e2
  split at hF <;> try exact False.elim hF
  rename_i e3
  obtain ⟨hin, h⟩ := hF
  have e3 := Nat.eq_of_beq_eq_true e3
  refine (qw_cell hP hE hS (qw_lt e1)).elim ?_ (fun ⟨N0, ec, hT0⟩ => ?_)
  rotate_left
  · rw [e2] at ec; cases ec; exact absurd e3 (show ¬ (1 : Nat) = 0 by decide)
  rintro ⟨ws, q0, hPw, hq0⟩
  rw [e2] at hq0
  exact va_iald hx hb hK hPw q0 0 (cA := g.2.2 0) (by rw [hq0]; simp only [qw_re]; rw [e3]) (by rw [qw_ts_at (Nat.lt_of_le_of_lt (Nat.zero_le _) htok.2.2.2.1), htok.1]) hin hd (hk _ _ _ _ h p l e s m args below meth c g C0 H locs hP hS lsA hl)
theorem qw_step_baload (hok : qw_ok tw w K) {k : Nat → qw_L → List Value → qw_M → Prop} (hk : qw_On tw w K Y Q k) {pc : Nat} {ls : qw_L} {st : List Value} {σ : qw_M} (hd : qw_dec (qw_yb Y) pc (.baload)) (hF : qw_F tw w K Y Q k (.baload) pc ls st σ) : qw_Ev tw w K Y Q pc ls st σ := by
  have hd := qw_dec1 hd rfl
  intro p l e s m args below meth c g C0 H locs hP hS lsA hl
  obtain ⟨hx, hb, hret, hml, hown, hts, hlk, hI, hK, hE⟩ := id C0
  obtain ⟨hgood, hwf, hcok, htok, hkok⟩ := id hok
  dsimp only [qw_F] at hF
  split at hF <;> try exact False.elim hF
  rename_i i o r
  split at hF <;> try exact False.elim hF
  rename_i e1
  have hF := qw_rw_inv hF
  split at hF <;> try exact False.elim hF
  rename_i q e2
  split at hF <;> try exact False.elim hF
  rename_i e3
  obtain ⟨hin, h⟩ := hF
  have e3 := Nat.eq_of_beq_eq_true e3
  refine (qw_cell hP hE hS (qw_lt e1)).elim ?_ (fun ⟨N0, ec, hT0⟩ => ?_)
  rotate_left
  · rw [e2] at ec; cases ec; exact va_tb hx hb hT0 hS hin rfl hd (hk _ _ _ _ h p l e s m args below meth c g C0 H locs hP hS lsA hl)
  rintro ⟨ws, q0, hPw, hq0⟩
  rw [e2] at hq0
  exact va_bald hx hb hK hPw q0 1 (cA := g.2.2 1) (by rw [hq0]; simp only [qw_re]; rw [e3]) (by rw [qw_ts_at (Nat.lt_of_le_of_lt (by omega : 1 ≤ 2) htok.2.2.2.1), htok.2.1]) hin hd (hk _ _ _ _ h p l e s m args below meth c g C0 H locs hP hS lsA hl)
theorem qw_step_aaload (hok : qw_ok tw w K) {k : Nat → qw_L → List Value → qw_M → Prop} (hk : qw_On tw w K Y Q k) {pc : Nat} {ls : qw_L} {st : List Value} {σ : qw_M} (hd : qw_dec (qw_yb Y) pc (.aaload)) (hF : qw_F tw w K Y Q k (.aaload) pc ls st σ) : qw_Ev tw w K Y Q pc ls st σ := by
  have hd := qw_dec1 hd rfl
  intro p l e s m args below meth c g C0 H locs hP hS lsA hl
  obtain ⟨hx, hb, hret, hml, hown, hts, hlk, hI, hK, hE⟩ := id C0
  obtain ⟨hgood, hwf, hcok, htok, hkok⟩ := id hok
  dsimp only [qw_F] at hF
  split at hF <;> try exact False.elim hF
  rename_i i o r
  split at hF <;> try exact False.elim hF
  rename_i q e1 e2
  split at hF <;> try exact False.elim hF
  rename_i e3
  obtain ⟨hin, h1, h2⟩ := hF
  have e3 := Nat.eq_of_beq_eq_true e3
  obtain ⟨C, hC⟩ := htok.2.2.1
  have hq0 := qw_ws_at (w := w) (g := g) (σ := σ) (qw_lt e1)
  rw [e2] at hq0
  refine va_aldq hx hb hK hP o 2 (cA := g.2.2 2) (C := C) (by rw [hq0]; simp only [qw_re]; rw [e3]) (by rw [qw_ts_at htok.2.2.2.1, hC]) hin hd ?_
  cases hz : q.2.2 i.toNatClampNeg with
  | none =>
    have h := h2 hz
    simp only [hz, Option.map_none]
    exact hk _ _ _ _ h p l e s m args below meth c g C0 H locs hP hS lsA hl
  | some z =>
    have h := h1 z hz
    simp only [hz, Option.map_some]
    exact hk _ _ _ _ h p l e s m args below meth c g C0 H locs hP hS lsA hl
theorem qw_step_iastore (hok : qw_ok tw w K) {k : Nat → qw_L → List Value → qw_M → Prop} (hk : qw_On tw w K Y Q k) {pc : Nat} {ls : qw_L} {st : List Value} {σ : qw_M} (hd : qw_dec (qw_yb Y) pc (.iastore)) (hF : qw_F tw w K Y Q k (.iastore) pc ls st σ) : qw_Ev tw w K Y Q pc ls st σ := by
  have hd := qw_dec1 hd rfl
  intro p l e s m args below meth c g C0 H locs hP hS lsA hl
  obtain ⟨hx, hb, hret, hml, hown, hts, hlk, hI, hK, hE⟩ := id C0
  obtain ⟨hgood, hwf, hcok, htok, hkok⟩ := id hok
  dsimp only [qw_F] at hF
  split at hF <;> try exact False.elim hF
  rename_i x i o r
  split at hF <;> try exact False.elim hF
  rename_i q e1 e2
  split at hF <;> try exact False.elim hF
  rename_i e3
  obtain ⟨hin, h⟩ := hF
  have e3 := Nat.eq_of_beq_eq_true e3
  have hq0 := qw_ws_at (w := w) (g := g) (σ := σ) (qw_lt e1)
  rw [e2] at hq0
  refine va_iast hx hb hK hP (qw_D hI) hS o 0 (cA := g.2.2 0) (n := q.2) (f := (σ o).1) (by rw [hq0]; simp only [qw_re]; rw [e3]) (by rw [qw_ts_at (Nat.lt_of_le_of_lt (Nat.zero_le _) htok.2.2.2.1), htok.1]) hin hd (fun H1 locs1 hP1 hD1 hS1 => ?_)
  exact hk _ _ _ _ h p l e s m args below meth c g C0 H1 locs1 (qw_P.put (qw_lt e1) (by rw [hwf.1 o _ q e2]; simp only [qw_re]; rw [e3]) hP1) hS1 lsA hl
theorem qw_step_return_ (hok : qw_ok tw w K) {k : Nat → qw_L → List Value → qw_M → Prop} (hk : qw_On tw w K Y Q k) {pc : Nat} {ls : qw_L} {st : List Value} {σ : qw_M} (hd : qw_dec (qw_yb Y) pc (.return_)) (hF : qw_F tw w K Y Q k (.return_) pc ls st σ) : qw_Ev tw w K Y Q pc ls st σ := by
  have hd := qw_dec1 hd rfl
  intro p l e s m args below meth c g C0 H locs hP hS lsA hl
  obtain ⟨hx, hb, hret, hml, hown, hts, hlk, hI, hK, hE⟩ := id C0
  obtain ⟨hgood, hwf, hcok, htok, hkok⟩ := id hok
  dsimp only [qw_F] at hF
  split at hF <;> try exact False.elim hF
  cases hy : qw_yr Y with
  | some t => simp only [hy] at hF
  | none =>
    simp only [hy] at hF
    exact W.vret hx hb (hret.trans hy) (fun t ht hW => ⟨⟨none, σ, rfl, by rw [hy]; rfl, hF, by rw [ht]; exact hP⟩, hS.F ht⟩) hS.2.2 hd hlk
theorem qw_nar01 {x : Int32} (h : x = 0 ∨ x = 1) : narrow .boolean (.int x) = .int x := by
  rcases h with rfl | rfl <;> rfl
theorem qw_step_ireturn (hok : qw_ok tw w K) {k : Nat → qw_L → List Value → qw_M → Prop} (hk : qw_On tw w K Y Q k) {pc : Nat} {ls : qw_L} {st : List Value} {σ : qw_M} (hd : qw_dec (qw_yb Y) pc (.ireturn)) (hF : qw_F tw w K Y Q k (.ireturn) pc ls st σ) : qw_Ev tw w K Y Q pc ls st σ := by
  have hd := qw_dec1 hd rfl
  intro p l e s m args below meth c g C0 H locs hP hS lsA hl
  obtain ⟨hx, hb, hret, hml, hown, hts, hlk, hI, hK, hE⟩ := id C0
  obtain ⟨hgood, hwf, hcok, htok, hkok⟩ := id hok
  dsimp only [qw_F] at hF
  split at hF <;> try exact False.elim hF
  rename_i x
  split at hF <;> try exact False.elim hF
  · rename_i hy
    exact W.iret hx hb (hret.trans hy) (fun t ht hW => ⟨⟨some (.int x), σ, rfl, by rw [hy]; exact ⟨x, rfl⟩, hF, by rw [ht]; exact hP⟩, hS.F ht⟩) hS.2.2 hd hlk
  · rename_i hy
    obtain ⟨h0, hF⟩ := hF
    exact W.zret hx hb (hret.trans hy) (qw_nar01 h0) (fun t ht hW => ⟨⟨some (.int x), σ, rfl, by rw [hy]; exact h0.imp (fun z => by rw [z]) (fun z => by rw [z]), hF, by rw [ht]; exact hP⟩, hS.F ht⟩) hS.2.2 hd hlk
  · rename_i hy
    obtain ⟨h0, hF⟩ := hF
    exact W.zret hx hb (hret.trans hy) h0 (fun t ht hW => ⟨⟨some (.int x), σ, rfl, by rw [hy]; exact ⟨x, rfl⟩, hF, by rw [ht]; exact hP⟩, hS.F ht⟩) hS.2.2 hd hlk
theorem qw_step_lreturn (hok : qw_ok tw w K) {k : Nat → qw_L → List Value → qw_M → Prop} (hk : qw_On tw w K Y Q k) {pc : Nat} {ls : qw_L} {st : List Value} {σ : qw_M} (hd : qw_dec (qw_yb Y) pc (.lreturn)) (hF : qw_F tw w K Y Q k (.lreturn) pc ls st σ) : qw_Ev tw w K Y Q pc ls st σ := by
  have hd := qw_dec1 hd rfl
  intro p l e s m args below meth c g C0 H locs hP hS lsA hl
  obtain ⟨hx, hb, hret, hml, hown, hts, hlk, hI, hK, hE⟩ := id C0
  obtain ⟨hgood, hwf, hcok, htok, hkok⟩ := id hok
  dsimp only [qw_F] at hF
  split at hF <;> try exact False.elim hF
  rename_i x
  split at hF <;> try exact False.elim hF
  rename_i hy
  exact W.lret hx hb (hret.trans hy) (fun t ht hW => ⟨⟨some (.long x), σ, rfl, by rw [hy]; exact ⟨x, rfl⟩, hF, by rw [ht]; exact hP⟩, hS.F ht⟩) hS.2.2 hd hlk
theorem qw_step_areturn (hok : qw_ok tw w K) {k : Nat → qw_L → List Value → qw_M → Prop} (hk : qw_On tw w K Y Q k) {pc : Nat} {ls : qw_L} {st : List Value} {σ : qw_M} (hd : qw_dec (qw_yb Y) pc (.areturn)) (hF : qw_F tw w K Y Q k (.areturn) pc ls st σ) : qw_Ev tw w K Y Q pc ls st σ := by
  have hd := qw_dec1 hd rfl
  intro p l e s m args below meth c g C0 H locs hP hS lsA hl
  obtain ⟨hx, hb, hret, hml, hown, hts, hlk, hI, hK, hE⟩ := id C0
  obtain ⟨hgood, hwf, hcok, htok, hkok⟩ := id hok
  dsimp only [qw_F] at hF
  split at hF <;> try exact False.elim hF
  · rename_i x
    split at hF <;> try exact False.elim hF
    rename_i C hy
    exact W.aret (v := .ref (g.2.1 x)) hx hb (hret.trans hy) (Or.inl ⟨C, rfl⟩) (Or.inr ⟨_, rfl⟩) (fun t ht hW => ⟨⟨some (.ref x), σ, rfl, by rw [hy]; exact Or.inr ⟨x, rfl⟩, hF, by rw [ht]; exact hP⟩, hS.F ht⟩) hS.2.2 hd hlk
  · split at hF <;> try exact False.elim hF
    rename_i C hy
    exact W.aret (v := .null) hx hb (hret.trans hy) (Or.inl ⟨C, rfl⟩) (Or.inl rfl) (fun t ht hW => ⟨⟨some .null, σ, rfl, by rw [hy]; exact Or.inl rfl, hF, by rw [ht]; exact hP⟩, hS.F ht⟩) hS.2.2 hd hlk
end QS3
