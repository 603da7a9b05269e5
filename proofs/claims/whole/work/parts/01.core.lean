/-! CORE 1: memory by cell numbers, instructions as conditions ('what must hold for the run to go on'), calls as judgements. Written for this claim. -/
abbrev qw_R : Type := (Nat → Int32) × (Nat → Int64)
abbrev qw_M : Type := Nat → qw_R
abbrev qw_E : Type := (Nat × Nat) ⊕ ((Nat × Nat × (Nat → Option Nat)) ⊕ (Nat × List Value))
abbrev qw_L : Type := List (Nat × Value)
/-- a world: kinds, how many cells may be written, what each cell is by its row, how many array types, these, how many cells in all, rows of those that are only read, statics, which fields are numbers (1 int, 2 long) -/
abbrev qw_Wd : Type := List vw_C × Nat × (Nat → qw_R → qw_E) × Nat × (Nat → FieldType) × Nat × (Nat → qw_R) × List (String × String × String × Value) × (Nat → Nat → Nat) × List (String × Nat × String × String × String × String) × Nat × List (String × Nat × String × Nat)
abbrev qw_cl (w : qw_Wd) : List vw_C := w.1
abbrev qw_n (w : qw_Wd) : Nat := w.2.1
abbrev qw_cf (w : qw_Wd) : Nat → qw_R → qw_E := w.2.2.1
abbrev qw_nT (w : qw_Wd) : Nat := w.2.2.2.1
abbrev qw_ty (w : qw_Wd) : Nat → FieldType := w.2.2.2.2.1
abbrev qw_nR (w : qw_Wd) : Nat := w.2.2.2.2.2.1
abbrev qw_ro (w : qw_Wd) : Nat → qw_R := w.2.2.2.2.2.2.1
abbrev qw_sta (w : qw_Wd) : List (String × String × String × Value) := w.2.2.2.2.2.2.2.1
abbrev qw_kd (w : qw_Wd) : Nat → Nat → Nat := w.2.2.2.2.2.2.2.2.1
/-- links to fields of a nest mate -/
abbrev qw_nst (w : qw_Wd) : List (String × Nat × String × String × String × String) := w.2.2.2.2.2.2.2.2.2.1
/-- how many texts; by which constant each is reached -/
abbrev qw_nS (w : qw_Wd) : Nat := w.2.2.2.2.2.2.2.2.2.2.1
abbrev qw_strs (w : qw_Wd) : List (String × Nat × String × Nat) := w.2.2.2.2.2.2.2.2.2.2.2
abbrev qw_nl (q : String × Nat × String × String × String × String) : Cond := .fieldLinkNest q.1 q.2.1 q.2.2.1 q.2.2.2.1 q.2.2.2.2.1 q.2.2.2.2.2
/-- where the cells are -/
abbrev qw_Ad : Type := va_G × (Nat → Nat) × (Nat → ClassId)
/-- a method: name, bytes, locals, answer, parameters, frames and words below it -/
abbrev qw_Y : Type := MethodName × ByteArray × Nat × Option FieldType × Nat × Nat × Nat
abbrev qw_yn (Y : qw_Y) : MethodName := Y.1
abbrev qw_yb (Y : qw_Y) : ByteArray := Y.2.1
abbrev qw_ym (Y : qw_Y) : Nat := Y.2.2.1
abbrev qw_yr (Y : qw_Y) : Option FieldType := Y.2.2.2.1
abbrev qw_yp (Y : qw_Y) : Nat := Y.2.2.2.2.1
abbrev qw_yf (Y : qw_Y) : Nat := Y.2.2.2.2.2.1
abbrev qw_yl (Y : qw_Y) : Nat := Y.2.2.2.2.2.2
abbrev qw_yc (Y : qw_Y) : Cond := .code (qw_yn Y) (qw_yb Y) (qw_ym Y) (qw_yr Y)
abbrev qw_rm (Y : qw_Y) : Room := { frames := qw_yf Y, cells := 0, slots := 0, locals := qw_yl Y }
/-- a constant pool: its name, fields (kind, place), calls (receiver, method), ints, longs, texts (cells), statics (places), arraycopy -/
abbrev qw_K : Type := String × List (Nat × Nat × Nat) × List (Nat × Option Nat × qw_Y) × List (Nat × Int32) × List (Nat × Int64) × List (Nat × Nat) × List (Nat × Nat) × Nat × List (Nat × Nat)
abbrev qw_kn (K : qw_K) : String := K.1
abbrev qw_kf (K : qw_K) : List (Nat × Nat × Nat) := K.2.1
abbrev qw_kc (K : qw_K) : List (Nat × Option Nat × qw_Y) := K.2.2.1
abbrev qw_ki (K : qw_K) : List (Nat × Int32) := K.2.2.2.1
abbrev qw_kl (K : qw_K) : List (Nat × Int64) := K.2.2.2.2.1
abbrev qw_ks (K : qw_K) : List (Nat × Nat) := K.2.2.2.2.2.1
abbrev qw_kg (K : qw_K) : List (Nat × Nat) := K.2.2.2.2.2.2.1
abbrev qw_ka (K : qw_K) : Nat := K.2.2.2.2.2.2.2.1
abbrev qw_kx (K : qw_K) : List (Nat × Nat) := K.2.2.2.2.2.2.2.2
def qw_rv (a : Nat → Nat) (v : Value) : Value := match v with
  | .ref k => .ref (a k)
  | .int x => .int x
  | .long x => .long x
  | v => v
def qw_re (g : qw_Ad) (r : qw_R) (e : qw_E) : va_E := match e with
  | .inl q => .inl (g.2.2 q.1, q.2, .inl r.1)
  | .inr (.inl q) => .inl (g.2.2 q.1, q.2.1, .inr (.inr (.inr (.inr (fun i => (q.2.2 i).map g.2.1)))))
  | .inr (.inr q) => .inr (q.1, q.2.map (qw_rv g.2.1))
/-- the row of a cell: of one that is only read it is the world's own -/
def qw_row (w : qw_Wd) (σ : qw_M) (k : Nat) : qw_R := match Nat.blt k (qw_n w) with
  | true => σ k
  | false => qw_ro w k
/-- what is asked of a cell's row -/
def qw_rw (w : qw_Wd) (σ : qw_M) (k : Nat) (f : qw_R → Prop) : Prop := match Nat.blt k (qw_n w) with
  | true => f (σ k)
  | false => f (qw_ro w k)
def qw_ws (w : qw_Wd) (g : qw_Ad) (σ : qw_M) : va_W := (List.range (qw_n w)).map (fun k => (g.2.1 k, qw_re g (σ k) (qw_cf w k (σ k))))
def qw_wr (w : qw_Wd) (g : qw_Ad) : va_W := (List.range (qw_nR w)).map (fun k => (g.2.1 (qw_n w + k), qw_re g (qw_ro w (qw_n w + k)) (qw_cf w (qw_n w + k) (qw_ro w (qw_n w + k)))))
def qw_ts (w : qw_Wd) (g : qw_Ad) : List (ClassId × FieldType) := (List.range (qw_nT w)).map (fun t => (g.2.2 t, qw_ty w t))
def qw_A (w : qw_Wd) (g : qw_Ad) : Nat → Prop := fun q => ∃ k, k < qw_n w ∧ q = g.2.1 k
def qw_I (w : qw_Wd) (g : qw_Ad) : Prop := ∀ i j, i < qw_n w → j < qw_n w → g.2.1 i = g.2.1 j → i = j
def qw_env (w : qw_Wd) (g : qw_Ad) (U : State) (H : Heap) : Prop := (∀ k, k < qw_nR w → ∃ N, qw_cf w (qw_n w + k) (qw_ro w (qw_n w + k)) = .inl (1, N) ∧ va_T .byte (g.2.1 (qw_n w + k)) N (fun j => .int ((qw_ro w (qw_n w + k)).1 j)) (qw_A w g) U H) ∧ (∀ k, k < qw_nR w → ¬ qw_A w g (g.2.1 (qw_n w + k))) ∧ (∀ q ∈ qw_sta w, va_Z q.1 q.2.1 q.2.2.1 q.2.2.2 (qw_A w g) U H) ∧ (∀ q ∈ qw_nst w, va_Nw (qw_nl q) U) ∧
  (∀ i, i < qw_nS w → va_O "java/lang/String" (g.2.1 (qw_n w + qw_nR w + i)) (qw_A w g) U H ∧ va_OF "java/lang/String" "value" "[B" (.ref (g.2.1 (qw_n w + i))) (g.2.1 (qw_n w + qw_nR w + i)) (qw_A w g) U H ∧ va_OF "java/lang/String" "coder" "B" (.int 0) (g.2.1 (qw_n w + qw_nR w + i)) (qw_A w g) U H) ∧
  ∀ q ∈ qw_strs w, vk_R q.1 q.2.1 q.2.2.1 (g.2.1 (qw_n w + qw_nR w + q.2.2.2)) U
def qw_P (w : qw_Wd) (g : qw_Ad) (σ : qw_M) (H : Heap) : Prop := va_P g.1 (qw_cl w) (qw_ws w g σ) H
def qw_up (σ : qw_M) (k : Nat) (r : qw_R) : qw_M := fun j => if j = k then r else σ j
/-- the int at place j of cell k becomes x -/
def qw_pi (σ : qw_M) (k j : Nat) (x : Int32) : qw_M := qw_up σ k (upd (σ k).1 j x, (σ k).2)
def qw_pl (σ : qw_M) (k j : Nat) (x : Int64) : qw_M := qw_up σ k ((σ k).1, vp_updL (σ k).2 j x)
/-- a part of an array comes to another -/
def qw_pc (σ : qw_M) (k : Nat) (f : Nat → Int32) (sp dp n : Nat) : qw_M := qw_up σ k (va_cpy f (σ k).1 sp dp n, (σ k).2)
def qw_sh (t : Option FieldType) (r : Option Value) : Prop := match t with
  | none => r = none
  | some .int => ∃ x : Int32, r = some (.int x)
  | some .boolean => r = some (.int 0) ∨ r = some (.int 1)
  | some .long => ∃ x : Int64, r = some (.long x)
  | some (.object _) => r = some .null ∨ ∃ k : Nat, r = some (.ref k)
  | some _ => ∃ x : Int32, r = some (.int x)
def qw_Z (w : qw_Wd) (g : qw_Ad) (Y : qw_Y) (Q : Option Value → qw_M → Prop) : Array Value → State → Outcome → State → Prop := fun _ st oc t =>
  (∃ (r : Option Value) (σ' : qw_M), oc = .returned (r.map (qw_rv g.2.1)) ∧ qw_sh (qw_yr Y) r ∧ Q r σ' ∧ qw_P w g σ' t.heap) ∧ va_F (qw_A w g) st t
/-- THE JUDGEMENT: called with these in this memory, the method returns, and answer and memory are as Q says -/
def qw_Mt (tw : List Cond) (w : qw_Wd) (Y : qw_Y) (av : List Value) (σ : qw_M) (Q : Option Value → qw_M → Prop) : Prop :=
  ∀ (l : Launch) (g : qw_Ad), qw_I w g → Met l (qw_yn Y) (qw_yc Y :: tw) (qw_rm Y) (va_Pc (av.map (qw_rv g.2.1)) (fun U => qw_P w g σ U.heap ∧ va_K g.1 (qw_cl w) (qw_ts w g) U ∧ qw_env w g U U.heap)) (qw_Z w g Y Q) 0 0 (qw_A w g)
def qw_lk {α : Type} (l : List (Nat × α)) (k : Nat) : Option α := match l with
  | [] => none
  | q :: l => match Nat.beq q.1 k with
    | true => some q.2
    | false => qw_lk l k
def qw_i1 (st : List Value) (f : Int32 → List Value → Prop) : Prop := match st with
  | .int x :: r => f x r
  | _ => False
def qw_i2 (st : List Value) (f : Int32 → Int32 → List Value → Prop) : Prop := match st with
  | .int y :: .int x :: r => f x y r
  | _ => False
def qw_l1 (st : List Value) (f : Int64 → List Value → Prop) : Prop := match st with
  | .long x :: r => f x r
  | _ => False
def qw_l2 (st : List Value) (f : Int64 → Int64 → List Value → Prop) : Prop := match st with
  | .long y :: .long x :: r => f x y r
  | _ => False
def qw_o1 (st : List Value) (f : Nat → List Value → Prop) : Prop := match st with
  | .ref o :: r => f o r
  | _ => False
def qw_sins (p : Nat × Value) (l : qw_L) : qw_L := match l with
  | [] => [p]
  | q :: l => match Nat.blt q.1 p.1 with
    | true => q :: qw_sins p l
    | false => p :: q :: l
def qw_s1 (ls : qw_L) (i : Nat) (v : Value) : qw_L := qw_sins (i, v) (ls.filter (fun q => !(q.1 == i) && !(q.1 + 1 == i && q.2.category == 2)))
def qw_s2 (ls : qw_L) (i : Nat) (v : Value) : qw_L := qw_sins (i, v) (ls.filter (fun q => !(q.1 == i) && (!(q.1 == i + 1) && !(q.1 + 1 == i && q.2.category == 2))))
def qw_lm (a : Nat → Nat) (ls : qw_L) : List (Nat × Value) := ls.map (fun q => (q.1, qw_rv a q.2))
/-- a branch's target -/
def qw_tg (pc : Nat) (off : Int) (f : Nat → Prop) : Prop := match (pc : Int) + off with
  | .ofNat t => f t
  | .negSucc _ => False
def qw_br (c a b : Prop) : Prop := (c → a) ∧ (¬ c → b)
def qw_nb (c a b : Prop) : Prop := (¬ c → a) ∧ (c → b)
def qw_sw (pc : Nat) (offs : List Int) (x v : Int) (f : Nat → Prop) : Prop := match offs with
  | [] => True
  | off :: l => (x = v → qw_tg pc off f) ∧ qw_sw pc l x (v + 1) f
def qw_isw (i : Instr) : Bool := match i with
  | .tableswitch .. => true
  | _ => false
def qw_len (i : Instr) : Nat := match i with
  | .bipush _ | .iload _ | .lload _ | .aload _ | .istore _ | .lstore _ | .astore _ | .ldc _ => 2
  | .sipush _ | .getfield _ | .putfield _ | .getstatic _ | .if_icmp _ _ | .ifCond _ _ | .ifnull _ | .ifnonnull _ | .goto _ | .iinc _ _ | .invokevirtual _ | .invokestatic _ | .invokespecial _ | .ldc_w _ | .ldc2_w _ => 3
  | _ => 1
def qw_dec (cc : ByteArray) (pc : Nat) (i : Instr) : Prop := ∃ n, decode cc pc = .ok (i, n) ∧ (n = qw_len i ∨ qw_isw i = true)
def qw_okb (cc : ByteArray) (q : Nat × Instr) : Bool := match decode cc q.1 with
  | .ok (j, n) => decide (q.2 = j) && (Nat.beq n (qw_len q.2) || qw_isw q.2)
  | .error _ => false
/-- what must hold at a call: the room, and the callee's judgement -/
def qw_cal (tw : List Cond) (w : qw_Wd) (Y Yc : qw_Y) (av rest : List Value) (σ : qw_M) (f : List Value → qw_M → Prop) : Prop :=
  (match Nat.ble (rest.map fun v => v.category).sum 8, Nat.ble (qw_yf Yc + 1) (qw_yf Y), Nat.ble (8 + (qw_ym Yc + 11) + qw_yl Yc) (qw_yl Y) with
   | true, true, true => True
   | _, _, _ => False) ∧
  ∃ Q : Option Value → qw_M → Prop, qw_Mt tw w Yc av σ Q ∧ match qw_yr Yc with
    | none => ∀ σ', Q none σ' → f rest σ'
    | some .int => ∀ (x : Int32) σ', Q (some (.int x)) σ' → f (.int x :: rest) σ'
    | some .boolean => ∀ (x : Int32) σ', (x = 0 ∨ x = 1) → Q (some (.int x)) σ' → f (.int x :: rest) σ'
    | some .long => ∀ (x : Int64) σ', Q (some (.long x)) σ' → f (.long x :: rest) σ'
    | some (.object _) => (∀ σ', Q (some .null) σ' → f (.null :: rest) σ') ∧ ∀ (k : Nat) σ', Q (some (.ref k)) σ' → f (.ref k :: rest) σ'
    | some _ => ∀ (x : Int32) σ', Q (some (.int x)) σ' → f (.int x :: rest) σ'
/-- ONE INSTRUCTION: what must hold, and with what it goes on (k) or ends (Q) -/
def qw_F (tw : List Cond) (w : qw_Wd) (K : qw_K) (Y : qw_Y) (Q : Option Value → qw_M → Prop) (k : Nat → qw_L → List Value → qw_M → Prop) (i : Instr) (pc : Nat) (ls : qw_L) (st : List Value) (σ : qw_M) : Prop := match i with
  | .iconst n => match n with
    | .ofNat j => k (pc + 1) ls (.int (nI j) :: st) σ
    | .negSucc j => k (pc + 1) ls (.int (Int32.ofInt (.negSucc j)) :: st) σ
  | .bipush n => match n with
    | .ofNat j => match Nat.blt j 128 with
      | true => k (pc + 2) ls (.int (nI j) :: st) σ
      | false => False
    | .negSucc j => match Nat.blt j 128 with
      | true => k (pc + 2) ls (.int (Int32.ofInt (.negSucc j)) :: st) σ
      | false => False
  | .sipush n => match n with
    | .ofNat j => match Nat.blt j 32768 with
      | true => k (pc + 3) ls (.int (nI j) :: st) σ
      | false => False
    | .negSucc _ => False
  | .lconst n => k (pc + 1) ls (.long (Int64.ofNat (n : Nat)) :: st) σ
  | .aconst_null => k (pc + 1) ls (.null :: st) σ
  | .ldc j => match qw_lk (qw_ki K) j with
    | some v => k (pc + 2) ls (.int v :: st) σ
    | none => match qw_lk (qw_ks K) j with
      | some i => match Nat.blt i (qw_nS w) with
        | true => k (pc + 2) ls (.ref (qw_n w + qw_nR w + i) :: st) σ
        | false => False
      | none => False
  | .ldc_w j => match qw_lk (qw_ki K) j with
    | some v => k (pc + 3) ls (.int v :: st) σ
    | none => False
  | .ldc2_w j => match qw_lk (qw_kl K) j with
    | some v => k (pc + 3) ls (.long v :: st) σ
    | none => False
  | .iload_n j => match qw_lk ls (j : Nat) with
    | some (.int x) => k (pc + 1) ls (.int x :: st) σ
    | _ => False
  | .iload j => match qw_lk ls j with
    | some (.int x) => k (pc + 2) ls (.int x :: st) σ
    | _ => False
  | .lload_n j => match qw_lk ls (j : Nat) with
    | some (.long x) => k (pc + 1) ls (.long x :: st) σ
    | _ => False
  | .lload j => match qw_lk ls j with
    | some (.long x) => k (pc + 2) ls (.long x :: st) σ
    | _ => False
  | .aload_n j => match qw_lk ls (j : Nat) with
    | some (.ref x) => k (pc + 1) ls (.ref x :: st) σ
    | some .null => k (pc + 1) ls (.null :: st) σ
    | _ => False
  | .aload j => match qw_lk ls j with
    | some (.ref x) => k (pc + 2) ls (.ref x :: st) σ
    | some .null => k (pc + 2) ls (.null :: st) σ
    | _ => False
  | .istore_n j => match Nat.blt (j : Nat) (qw_ym Y) with
    | true => qw_i1 st fun x r => k (pc + 1) (qw_s1 ls (j : Nat) (.int x)) r σ
    | false => False
  | .istore j => match Nat.blt j (qw_ym Y) with
    | true => qw_i1 st fun x r => k (pc + 2) (qw_s1 ls j (.int x)) r σ
    | false => False
  | .lstore_n j => match Nat.blt ((j : Nat) + 1) (qw_ym Y) with
    | true => qw_l1 st fun x r => k (pc + 1) (qw_s2 ls (j : Nat) (.long x)) r σ
    | false => False
  | .lstore j => match Nat.blt (j + 1) (qw_ym Y) with
    | true => qw_l1 st fun x r => k (pc + 2) (qw_s2 ls j (.long x)) r σ
    | false => False
  | .astore_n j => match Nat.blt (j : Nat) (qw_ym Y), st with
    | true, .ref x :: r => k (pc + 1) (qw_s1 ls (j : Nat) (.ref x)) r σ
    | true, .null :: r => k (pc + 1) (qw_s1 ls (j : Nat) .null) r σ
    | _, _ => False
  | .astore j => match Nat.blt j (qw_ym Y), st with
    | true, .ref x :: r => k (pc + 2) (qw_s1 ls j (.ref x)) r σ
    | true, .null :: r => k (pc + 2) (qw_s1 ls j .null) r σ
    | _, _ => False
  | .iinc j n => match Nat.blt j (qw_ym Y), qw_lk ls j with
    | true, some (.int x) => match n with
      | .ofNat i => k (pc + 3) (qw_s1 ls j (.int (x + nI i))) st σ
      | .negSucc i => k (pc + 3) (qw_s1 ls j (.int (x + Int32.ofInt (.negSucc i)))) st σ
    | _, _ => False
  | .iadd => qw_i2 st fun x y r => k (pc + 1) ls (.int (x + y) :: r) σ
  | .isub => qw_i2 st fun x y r => k (pc + 1) ls (.int (x - y) :: r) σ
  | .imul => qw_i2 st fun x y r => k (pc + 1) ls (.int (x * y) :: r) σ
  | .idiv => qw_i2 st fun x y r => ¬ y = 0 ∧ k (pc + 1) ls (.int (x / y) :: r) σ
  | .irem => qw_i2 st fun x y r => ¬ y = 0 ∧ k (pc + 1) ls (.int (x - x / y * y) :: r) σ
  | .iand => qw_i2 st fun x y r => k (pc + 1) ls (.int (x &&& y) :: r) σ
  | .ior => qw_i2 st fun x y r => k (pc + 1) ls (.int (x ||| y) :: r) σ
  | .ixor => qw_i2 st fun x y r => k (pc + 1) ls (.int (x ^^^ y) :: r) σ
  | .ishl => qw_i2 st fun x y r => k (pc + 1) ls (.int (x <<< (y &&& 31)) :: r) σ
  | .ishr => qw_i2 st fun x y r => k (pc + 1) ls (.int (x >>> (y &&& 31)) :: r) σ
  | .iushr => qw_i2 st fun x y r => k (pc + 1) ls (.int (x.toUInt32 >>> (y.toUInt32 &&& Int32.toUInt32 31)).toInt32 :: r) σ
  | .ladd => qw_l2 st fun x y r => k (pc + 1) ls (.long (x + y) :: r) σ
  | .lsub => qw_l2 st fun x y r => k (pc + 1) ls (.long (x - y) :: r) σ
  | .lmul => qw_l2 st fun x y r => k (pc + 1) ls (.long (x * y) :: r) σ
  | .ldiv => qw_l2 st fun x y r => ¬ y = 0 ∧ k (pc + 1) ls (.long (x / y) :: r) σ
  | .lrem => qw_l2 st fun x y r => ¬ y = 0 ∧ k (pc + 1) ls (.long (x - x / y * y) :: r) σ
  | .lcmp => qw_l2 st fun x y r => k (pc + 1) ls (.int (lg_cmp x y) :: r) σ
  | .lshl => match st with
    | .int y :: .long x :: r => k (pc + 1) ls (.long (x <<< (y.toInt64 &&& 63)) :: r) σ
    | _ => False
  | .i2l => qw_i1 st fun x r => k (pc + 1) ls (.long x.toInt64 :: r) σ
  | .i2b => qw_i1 st fun x r => k (pc + 1) ls (.int x.toInt8.toInt32 :: r) σ
  | .i2s => qw_i1 st fun x r => k (pc + 1) ls (.int x.toInt16.toInt32 :: r) σ
  | .i2c => qw_i1 st fun x r => k (pc + 1) ls (.int (x.toUInt32 % 65536).toInt32 :: r) σ
  | .dup => match st with
    | .int x :: r => k (pc + 1) ls (.int x :: .int x :: r) σ
    | .ref x :: r => k (pc + 1) ls (.ref x :: .ref x :: r) σ
    | _ => False
  | .dup2 => match st with
    | .int y :: .int x :: r => k (pc + 1) ls (.int y :: .int x :: .int y :: .int x :: r) σ
    | .int y :: .ref x :: r => k (pc + 1) ls (.int y :: .ref x :: .int y :: .ref x :: r) σ
    | _ => False
  | .pop => match st with
    | .int _ :: r => k (pc + 1) ls r σ
    | .ref _ :: r => k (pc + 1) ls r σ
    | _ => False
  | .goto off => qw_tg pc off fun t => k t ls st σ
  | .ifCond c off => qw_tg pc off fun t => qw_i1 st fun x r => match c with
    | .eq => qw_br (x = 0) (k t ls r σ) (k (pc + 3) ls r σ)
    | .ne => qw_nb (x = 0) (k t ls r σ) (k (pc + 3) ls r σ)
    | .lt => qw_br (x < 0) (k t ls r σ) (k (pc + 3) ls r σ)
    | .ge => qw_br (0 ≤ x) (k t ls r σ) (k (pc + 3) ls r σ)
    | .gt => qw_br (0 < x) (k t ls r σ) (k (pc + 3) ls r σ)
    | .le => qw_br (x ≤ 0) (k t ls r σ) (k (pc + 3) ls r σ)
  | .if_icmp c off => qw_tg pc off fun t => qw_i2 st fun x y r => match c with
    | .eq => qw_br (x = y) (k t ls r σ) (k (pc + 3) ls r σ)
    | .ne => qw_nb (x = y) (k t ls r σ) (k (pc + 3) ls r σ)
    | .lt => qw_br (x < y) (k t ls r σ) (k (pc + 3) ls r σ)
    | .ge => qw_br (y ≤ x) (k t ls r σ) (k (pc + 3) ls r σ)
    | .gt => qw_br (y < x) (k t ls r σ) (k (pc + 3) ls r σ)
    | .le => qw_br (x ≤ y) (k t ls r σ) (k (pc + 3) ls r σ)
  | .ifnull off => qw_tg pc off fun t => match st with
    | .ref _ :: r => k (pc + 3) ls r σ
    | .null :: r => k t ls r σ
    | _ => False
  | .ifnonnull off => qw_tg pc off fun t => match st with
    | .ref _ :: r => k t ls r σ
    | .null :: r => k (pc + 3) ls r σ
    | _ => False
  | .tableswitch d lo hi offs => qw_i1 st fun x r => (x.toInt < lo ∨ hi < x.toInt → qw_tg pc d fun t => k t ls r σ) ∧ (hi < lo + offs.size ∧ qw_sw pc offs.toList x.toInt lo fun t => k t ls r σ)
  | .getstatic j => match qw_lk (qw_kg K) j with
    | some q => match (qw_sta w)[q]? with
      | some z => match z.2.2.2 with
        | .int x => k (pc + 3) ls (.int x :: st) σ
        | _ => False
      | none => False
    | none => False
  | .getfield j => qw_o1 st fun o r => match Nat.blt o (qw_n w + qw_nR w) with
    | true => match qw_lk (qw_kf K) j with
      | some q => qw_rw w σ o fun ρ => match qw_cf w o ρ with
        | .inr (.inr c) => match Nat.beq c.1 q.1, c.2[q.2]? with
          | true, some v => k (pc + 3) ls (v :: r) σ
          | _, _ => False
        | _ => False
      | none => False
    | false => match qw_lk (qw_kx K) j, Nat.blt (o - (qw_n w + qw_nR w)) (qw_nS w) with
      | some 0, true => k (pc + 3) ls (.ref (qw_n w + (o - (qw_n w + qw_nR w))) :: r) σ
      | some 1, true => k (pc + 3) ls (.int 0 :: r) σ
      | _, _ => False
  | .putfield j => match qw_lk (qw_kf K) j with
    | none => False
    | some q => match st with
      | .int x :: .ref o :: r => match Nat.blt o (qw_n w), qw_cf w o (σ o) with
        | true, .inr (.inr c) => match Nat.beq c.1 q.1, Nat.beq (qw_kd w q.1 q.2) 1 with
          | true, true => k (pc + 3) ls r (qw_pi σ o q.2 x)
          | _, _ => False
        | _, _ => False
      | .long x :: .ref o :: r => match Nat.blt o (qw_n w), qw_cf w o (σ o) with
        | true, .inr (.inr c) => match Nat.beq c.1 q.1, Nat.beq (qw_kd w q.1 q.2) 2 with
          | true, true => k (pc + 3) ls r (qw_pl σ o q.2 x)
          | _, _ => False
        | _, _ => False
      | _ => False
  | .arraylength => qw_o1 st fun o r => match Nat.blt o (qw_n w + qw_nR w) with
    | true => qw_rw w σ o fun ρ => match qw_cf w o ρ with
      | .inl q => match Nat.blt q.1 (qw_nT w) with
        | true => k (pc + 1) ls (.int (nI q.2) :: r) σ
        | false => False
      | _ => False
    | false => False
  | .iaload => match st with
    | .int i :: .ref o :: r => match Nat.blt o (qw_n w + qw_nR w) with
      | true => qw_rw w σ o fun ρ => match qw_cf w o ρ with
        | .inl q => match Nat.beq q.1 0 with
          | true => vp_in i q.2 ∧ k (pc + 1) ls (.int (ρ.1 i.toNatClampNeg) :: r) σ
          | false => False
        | _ => False
      | false => False
    | _ => False
  | .baload => match st with
    | .int i :: .ref o :: r => match Nat.blt o (qw_n w + qw_nR w) with
      | true => qw_rw w σ o fun ρ => match qw_cf w o ρ with
        | .inl q => match Nat.beq q.1 1 with
          | true => vp_in i q.2 ∧ k (pc + 1) ls (.int (ρ.1 i.toNatClampNeg) :: r) σ
          | false => False
        | _ => False
      | false => False
    | _ => False
  | .aaload => match st with
    | .int i :: .ref o :: r => match Nat.blt o (qw_n w), qw_cf w o (σ o) with
      | true, .inr (.inl q) => match Nat.beq q.1 2 with
        | true => vp_in i q.2.1 ∧ (∀ z, q.2.2 i.toNatClampNeg = some z → k (pc + 1) ls (.ref z :: r) σ) ∧ (q.2.2 i.toNatClampNeg = none → k (pc + 1) ls (.null :: r) σ)
        | false => False
      | _, _ => False
    | _ => False
  | .iastore => match st with
    | .int x :: .int i :: .ref o :: r => match Nat.blt o (qw_n w), qw_cf w o (σ o) with
      | true, .inl q => match Nat.beq q.1 0 with
        | true => vp_in i q.2 ∧ k (pc + 1) ls r (qw_pi σ o i.toNatClampNeg x)
        | false => False
      | _, _ => False
    | _ => False
  | .invokevirtual j => match qw_lk (qw_kc K) j with
    | some (some ci, Yc) => match Nat.ble (qw_yp Yc) st.length, st.drop (qw_yp Yc) with
      | true, .ref o :: r => match Nat.blt o (qw_n w + qw_nR w) with
        | true => qw_rw w σ o fun ρ => match qw_cf w o ρ with
          | .inr (.inr c) => match Nat.beq c.1 ci, Nat.blt ci 13 with
            | true, true => qw_cal tw w Y Yc (.ref o :: (st.take (qw_yp Yc)).reverse) r σ fun st' σ' => k (pc + 3) ls st' σ'
            | _, _ => False
          | _ => False
        | false => match Nat.beq ci 13, Nat.blt (o - (qw_n w + qw_nR w)) (qw_nS w) with
          | true, true => qw_cal tw w Y Yc (.ref o :: (st.take (qw_yp Yc)).reverse) r σ fun st' σ' => k (pc + 3) ls st' σ'
          | _, _ => False
      | _, _ => False
    | _ => False
  | .invokestatic j => match qw_lk (qw_kc K) j with
    | some (none, Yc) => match Nat.ble (qw_yp Yc) st.length with
      | true => qw_cal tw w Y Yc (st.take (qw_yp Yc)).reverse (st.drop (qw_yp Yc)) σ fun st' σ' => k (pc + 3) ls st' σ'
      | false => False
    | some (some _, _) => False
    | none => match Nat.beq j (qw_ka K) && Nat.blt 0 j, st with
      | true, .int n :: .int dp :: .ref o :: .int sp :: .ref o0 :: [] => match Nat.blt o (qw_n w), Nat.blt o0 (qw_n w), qw_cf w o (σ o), qw_cf w o0 (σ o0) with
        | true, true, .inl q, .inl q0 => match Nat.beq q.1 0, Nat.beq q0.1 0 with
          | true, true => (¬ sp < 0 ∧ ¬ dp < 0 ∧ ¬ n < 0 ∧ sp.toNatClampNeg + n.toNatClampNeg ≤ q0.2 ∧ dp.toNatClampNeg + n.toNatClampNeg ≤ q.2) ∧ (1 ≤ qw_yf Y ∧ nativeFrameWords "java/lang/System" "arraycopy" 5 + 11 ≤ qw_yl Y) ∧ k (pc + 3) ls [] (qw_pc σ o (σ o0).1 sp.toNatClampNeg dp.toNatClampNeg n.toNatClampNeg)
          | _, _ => False
        | _, _, _, _ => False
      | _, _ => False
  | .return_ => match st with
    | [] => match qw_yr Y with
      | none => Q none σ
      | some _ => False
    | _ => False
  | .ireturn => match st with
    | .int x :: [] => match qw_yr Y with
      | some .int => Q (some (.int x)) σ
      | some .boolean => (x = 0 ∨ x = 1) ∧ Q (some (.int x)) σ
      | some .byte => narrow .byte (.int x) = .int x ∧ Q (some (.int x)) σ
      | _ => False
    | _ => False
  | .lreturn => match st with
    | .long x :: [] => match qw_yr Y with
      | some .long => Q (some (.long x)) σ
      | _ => False
    | _ => False
  | .areturn => match st with
    | .ref x :: [] => match qw_yr Y with
      | some (.object _) => Q (some (.ref x)) σ
      | _ => False
    | .null :: [] => match qw_yr Y with
      | some (.object _) => Q (some .null) σ
      | _ => False
    | _ => False
  | _ => False
def qw_find (code : List (Nat × Instr)) (pc : Nat) : List (Nat × Instr) := match code with
  | [] => []
  | q :: l => match Nat.beq q.1 pc with
    | true => q :: l
    | false => qw_find l pc
def qw_has (l : List Nat) (k : Nat) : Bool := match l with
  | [] => false
  | q :: l => match Nat.beq q k with
    | true => true
    | false => qw_has l k
/-- the rest of the code, if it goes on at pc; else it is sought -/
def qw_nx (code rest : List (Nat × Instr)) (pc : Nat) : List (Nat × Instr) := match rest with
  | [] => qw_find code pc
  | q :: l => match Nat.beq q.1 pc with
    | true => q :: l
    | false => qw_find code pc
/-- n INSTRUCTIONS, up to a cut -/
def qw_run (tw : List Cond) (w : qw_Wd) (K : qw_K) (Y : qw_Y) (code : List (Nat × Instr)) (cut : List Nat) (Q : Option Value → qw_M → Prop) (P : Nat → qw_L → List Value → qw_M → Prop) (n : Nat) : Nat → List (Nat × Instr) → qw_L → List Value → qw_M → Prop := match n with
  | 0 => fun pc _ ls st σ => P pc ls st σ
  | n + 1 => fun pc rest ls st σ => match rest with
    | [] => P pc ls st σ
    | q :: tl => match Nat.beq q.1 pc with
      | false => P pc ls st σ
      | true => qw_F tw w K Y Q (fun pc' ls' st' σ' => match qw_has cut pc' with
          | true => P pc' ls' st' σ'
          | false => qw_run tw w K Y code cut Q P n pc' (qw_nx code tl pc') ls' st' σ') q.2 pc ls st σ
