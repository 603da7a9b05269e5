section
/-! CORE 1: memory by cell numbers, instructions as conditions ('what must hold for the run to go on'), calls as judgements. Written for this claim. -/
abbrev qw_R : Type := (Nat → Int32) × (Nat → Int64)
abbrev qw_M : Type := Nat → qw_R
abbrev qw_E : Type := (Nat × Nat) ⊕ ((Nat × Nat × (Nat → Option Nat)) ⊕ (Nat × List Value))
abbrev qw_L : Type := List (Nat × Value)
/-- a world: kinds, how many cells may be written, what each cell is by its row, how many array types, these, how many cells in all, rows of those that are only read, statics, which fields are numbers (1 int, 2 long) -/
abbrev qw_Wd : Type := List vw_C × Nat × (Nat → qw_R → qw_E) × Nat × (Nat → FieldType) × Nat × (Nat → qw_R) × List (String × String × String × Value) × (Nat → Nat → Nat) × List (String × Nat × String × String × String × String) × Nat × List (String × Nat × String × Nat)
abbrev qw_cl (w : qw_Wd) : List vw_C := w.1
abbrev qw_n (w : qw_Wd) : Nat := w.2.1
abbrev qw_cf (w : qw_Wd) : Nat → qw_R → qw_E := w.2.2.1
abbrev qw_nT (w : qw_Wd) : Nat := w.2.2.2.1
abbrev qw_ty (w : qw_Wd) : Nat → FieldType := w.2.2.2.2.1
abbrev qw_nR (w : qw_Wd) : Nat := w.2.2.2.2.2.1
abbrev qw_ro (w : qw_Wd) : Nat → qw_R := w.2.2.2.2.2.2.1
abbrev qw_sta (w : qw_Wd) : List (String × String × String × Value) := w.2.2.2.2.2.2.2.1
abbrev qw_kd (w : qw_Wd) : Nat → Nat → Nat := w.2.2.2.2.2.2.2.2.1
/-- links to fields of a nest mate -/
abbrev qw_nst (w : qw_Wd) : List (String × Nat × String × String × String × String) := w.2.2.2.2.2.2.2.2.2.1
/-- how many texts; by which constant each is reached -/
abbrev qw_nS (w : qw_Wd) : Nat := w.2.2.2.2.2.2.2.2.2.2.1
abbrev qw_strs (w : qw_Wd) : List (String × Nat × String × Nat) := w.2.2.2.2.2.2.2.2.2.2.2
abbrev qw_nl (q : String × Nat × String × String × String × String) : Cond := .fieldLinkNest q.1 q.2.1 q.2.2.1 q.2.2.2.1 q.2.2.2.2.1 q.2.2.2.2.2
/-- where the cells are -/
abbrev qw_Ad : Type := va_G × (Nat → Nat) × (Nat → ClassId)
/-- a method: name, bytes, locals, answer, parameters, frames and words below it -/
abbrev qw_Y : Type := MethodName × ByteArray × Nat × Option FieldType × Nat × Nat × Nat
abbrev qw_yn (Y : qw_Y) : MethodName := Y.1
abbrev qw_yb (Y : qw_Y) : ByteArray := Y.2.1
abbrev qw_ym (Y : qw_Y) : Nat := Y.2.2.1
abbrev qw_yr (Y : qw_Y) : Option FieldType := Y.2.2.2.1
abbrev qw_yp (Y : qw_Y) : Nat := Y.2.2.2.2.1
abbrev qw_yf (Y : qw_Y) : Nat := Y.2.2.2.2.2.1
abbrev qw_yl (Y : qw_Y) : Nat := Y.2.2.2.2.2.2
abbrev qw_yc (Y : qw_Y) : Cond := .code (qw_yn Y) (qw_yb Y) (qw_ym Y) (qw_yr Y)
abbrev qw_rm (Y : qw_Y) : Room := { frames := qw_yf Y, cells := 0, slots := 0, locals := qw_yl Y }
/-- a constant pool: its name, fields (kind, place), calls (receiver, method), ints, longs, texts (cells), statics (places), arraycopy -/
abbrev qw_K : Type := String × List (Nat × Nat × Nat) × List (Nat × Option Nat × qw_Y) × List (Nat × Int32) × List (Nat × Int64) × List (Nat × Nat) × List (Nat × Nat) × Nat × List (Nat × Nat)
abbrev qw_kn (K : qw_K) : String := K.1
abbrev qw_kf (K : qw_K) : List (Nat × Nat × Nat) := K.2.1
abbrev qw_kc (K : qw_K) : List (Nat × Option Nat × qw_Y) := K.2.2.1
abbrev qw_ki (K : qw_K) : List (Nat × Int32) := K.2.2.2.1
abbrev qw_kl (K : qw_K) : List (Nat × Int64) := K.2.2.2.2.1
abbrev qw_ks (K : qw_K) : List (Nat × Nat) := K.2.2.2.2.2.1
abbrev qw_kg (K : qw_K) : List (Nat × Nat) := K.2.2.2.2.2.2.1
abbrev qw_ka (K : qw_K) : Nat := K.2.2.2.2.2.2.2.1
abbrev qw_kx (K : qw_K) : List (Nat × Nat) := K.2.2.2.2.2.2.2.2
def qw_rv (a : Nat → Nat) (v : Value) : Value := match v with
  | .ref k => .ref (a k)
  | .int x => .int x
  | .long x => .long x
  | v => v
def qw_re (g : qw_Ad) (r : qw_R) (e : qw_E) : va_E := match e with
  | .inl q => .inl (g.2.2 q.1, q.2, .inl r.1)
  | .inr (.inl q) => .inl (g.2.2 q.1, q.2.1, .inr (.inr (.inr (.inr (fun i => (q.2.2 i).map g.2.1)))))
  | .inr (.inr q) => .inr (q.1, q.2.map (qw_rv g.2.1))
/-- the row of a cell: of one that is only read it is the world's own -/
def qw_row (w : qw_Wd) (σ : qw_M) (k : Nat) : qw_R := match Nat.blt k (qw_n w) with
  | true => σ k
  | false => qw_ro w k
/-- what is asked of a cell's row -/
def qw_rw (w : qw_Wd) (σ : qw_M) (k : Nat) (f : qw_R → Prop) : Prop := match Nat.blt k (qw_n w) with
  | true => f (σ k)
  | false => f (qw_ro w k)
def qw_ws (w : qw_Wd) (g : qw_Ad) (σ : qw_M) : va_W := (List.range (qw_n w)).map (fun k => (g.2.1 k, qw_re g (σ k) (qw_cf w k (σ k))))
def qw_wr (w : qw_Wd) (g : qw_Ad) : va_W := (List.range (qw_nR w)).map (fun k => (g.2.1 (qw_n w + k), qw_re g (qw_ro w (qw_n w + k)) (qw_cf w (qw_n w + k) (qw_ro w (qw_n w + k)))))
def qw_ts (w : qw_Wd) (g : qw_Ad) : List (ClassId × FieldType) := (List.range (qw_nT w)).map (fun t => (g.2.2 t, qw_ty w t))
def qw_A (w : qw_Wd) (g : qw_Ad) : Nat → Prop := fun q => ∃ k, k < qw_n w ∧ q = g.2.1 k
def qw_I (w : qw_Wd) (g : qw_Ad) : Prop := ∀ i j, i < qw_n w → j < qw_n w → g.2.1 i = g.2.1 j → i = j
def qw_env (w : qw_Wd) (g : qw_Ad) (U : State) (H : Heap) : Prop := va_P g.1 (qw_cl w) (qw_wr w g) H ∧ (∀ k, k < qw_nR w → ¬ qw_A w g (g.2.1 (qw_n w + k))) ∧ (∀ q ∈ qw_sta w, va_Z q.1 q.2.1 q.2.2.1 q.2.2.2 (qw_A w g) U H) ∧ (∀ q ∈ qw_nst w, va_Nw (qw_nl q) U) ∧
  (∀ i, i < qw_nS w → va_O "java/lang/String" (g.2.1 (qw_n w + qw_nR w + i)) (qw_A w g) U H ∧ va_OF "java/lang/String" "value" "[B" (.ref (g.2.1 (qw_n w + i))) (g.2.1 (qw_n w + qw_nR w + i)) (qw_A w g) U H ∧ va_OF "java/lang/String" "coder" "B" (.int 0) (g.2.1 (qw_n w + qw_nR w + i)) (qw_A w g) U H) ∧
  ∀ q ∈ qw_strs w, vk_R q.1 q.2.1 q.2.2.1 (g.2.1 (qw_n w + qw_nR w + q.2.2.2)) U
def qw_P (w : qw_Wd) (g : qw_Ad) (σ : qw_M) (H : Heap) : Prop := va_P g.1 (qw_cl w) (qw_ws w g σ) H
def qw_up (σ : qw_M) (k : Nat) (r : qw_R) : qw_M := fun j => if j = k then r else σ j
/-- the int at place j of cell k becomes x -/
def qw_pi (σ : qw_M) (k j : Nat) (x : Int32) : qw_M := qw_up σ k (upd (σ k).1 j x, (σ k).2)
def qw_pl (σ : qw_M) (k j : Nat) (x : Int64) : qw_M := qw_up σ k ((σ k).1, vp_updL (σ k).2 j x)
/-- a part of an array comes to another -/
def qw_pc (σ : qw_M) (k : Nat) (f : Nat → Int32) (sp dp n : Nat) : qw_M := qw_up σ k (va_cpy f (σ k).1 sp dp n, (σ k).2)
def qw_sh (t : Option FieldType) (r : Option Value) : Prop := match t with
  | none => r = none
  | some .int => ∃ x : Int32, r = some (.int x)
  | some .boolean => r = some (.int 0) ∨ r = some (.int 1)
  | some .long => ∃ x : Int64, r = some (.long x)
  | some (.object _) => r = some .null ∨ ∃ k : Nat, r = some (.ref k)
  | some _ => ∃ x : Int32, r = some (.int x)
def qw_Z (w : qw_Wd) (g : qw_Ad) (Y : qw_Y) (Q : Option Value → qw_M → Prop) : Array Value → State → Outcome → State → Prop := fun _ st oc t =>
  (∃ (r : Option Value) (σ' : qw_M), oc = .returned (r.map (qw_rv g.2.1)) ∧ qw_sh (qw_yr Y) r ∧ Q r σ' ∧ qw_P w g σ' t.heap) ∧ va_F (qw_A w g) st t
/-- THE JUDGEMENT: called with these in this memory, the method returns, and answer and memory are as Q says -/
def qw_Mt (tw : List Cond) (w : qw_Wd) (Y : qw_Y) (av : List Value) (σ : qw_M) (Q : Option Value → qw_M → Prop) : Prop :=
  ∀ (l : Launch) (g : qw_Ad), qw_I w g → Met l (qw_yn Y) (qw_yc Y :: tw) (qw_rm Y) (va_Pc (av.map (qw_rv g.2.1)) (fun U => qw_P w g σ U.heap ∧ va_K g.1 (qw_cl w) (qw_ts w g) U ∧ qw_env w g U U.heap)) (qw_Z w g Y Q) 0 0 (qw_A w g)
def qw_lk {α : Type} (l : List (Nat × α)) (k : Nat) : Option α := match l with
  | [] => none
  | q :: l => match Nat.beq q.1 k with
    | true => some q.2
    | false => qw_lk l k
def qw_i1 (st : List Value) (f : Int32 → List Value → Prop) : Prop := match st with
  | .int x :: r => f x r
  | _ => False
def qw_i2 (st : List Value) (f : Int32 → Int32 → List Value → Prop) : Prop := match st with
  | .int y :: .int x :: r => f x y r
  | _ => False
def qw_l1 (st : List Value) (f : Int64 → List Value → Prop) : Prop := match st with
  | .long x :: r => f x r
  | _ => False
def qw_l2 (st : List Value) (f : Int64 → Int64 → List Value → Prop) : Prop := match st with
  | .long y :: .long x :: r => f x y r
  | _ => False
def qw_o1 (st : List Value) (f : Nat → List Value → Prop) : Prop := match st with
  | .ref o :: r => f o r
  | _ => False
def qw_sins (p : Nat × Value) (l : qw_L) : qw_L := match l with
  | [] => [p]
  | q :: l => match Nat.blt q.1 p.1 with
    | true => q :: qw_sins p l
    | false => p :: q :: l
def qw_s1 (ls : qw_L) (i : Nat) (v : Value) : qw_L := qw_sins (i, v) (ls.filter (fun q => !(q.1 == i) && !(q.1 + 1 == i && q.2.category == 2)))
def qw_s2 (ls : qw_L) (i : Nat) (v : Value) : qw_L := qw_sins (i, v) (ls.filter (fun q => !(q.1 == i) && (!(q.1 == i + 1) && !(q.1 + 1 == i && q.2.category == 2))))
def qw_lm (a : Nat → Nat) (ls : qw_L) : List (Nat × Value) := ls.map (fun q => (q.1, qw_rv a q.2))
/-- a branch's target -/
def qw_tg (pc : Nat) (off : Int) (f : Nat → Prop) : Prop := match (pc : Int) + off with
  | .ofNat t => f t
  | .negSucc _ => False
def qw_br (c a b : Prop) : Prop := (c → a) ∧ (¬ c → b)
def qw_nb (c a b : Prop) : Prop := (¬ c → a) ∧ (c → b)
def qw_sw (pc : Nat) (offs : List Int) (x v : Int) (f : Nat → Prop) : Prop := match offs with
  | [] => True
  | off :: l => (x = v → qw_tg pc off f) ∧ qw_sw pc l x (v + 1) f
def qw_isw (i : Instr) : Bool := match i with
  | .tableswitch .. => true
  | _ => false
def qw_len (i : Instr) : Nat := match i with
  | .bipush _ | .iload _ | .lload _ | .aload _ | .istore _ | .lstore _ | .astore _ | .ldc _ => 2
  | .sipush _ | .getfield _ | .putfield _ | .getstatic _ | .if_icmp _ _ | .ifCond _ _ | .ifnull _ | .ifnonnull _ | .goto _ | .iinc _ _ | .invokevirtual _ | .invokestatic _ | .invokespecial _ | .ldc_w _ | .ldc2_w _ => 3
  | _ => 1
def qw_dec (cc : ByteArray) (pc : Nat) (i : Instr) : Prop := ∃ n, decode cc pc = .ok (i, n) ∧ (n = qw_len i ∨ qw_isw i = true)
def qw_okb (cc : ByteArray) (q : Nat × Instr) : Bool := match decode cc q.1 with
  | .ok (j, n) => decide (q.2 = j) && (Nat.beq n (qw_len q.2) || qw_isw q.2)
  | .error _ => false
/-- what must hold at a call: the room, and the callee's judgement -/
def qw_cal (tw : List Cond) (w : qw_Wd) (Y Yc : qw_Y) (av rest : List Value) (σ : qw_M) (f : List Value → qw_M → Prop) : Prop :=
  (match Nat.ble (rest.map fun v => v.category).sum 8, Nat.ble (qw_yf Yc + 1) (qw_yf Y), Nat.ble (8 + (qw_ym Yc + 11) + qw_yl Yc) (qw_yl Y) with
   | true, true, true => True
   | _, _, _ => False) ∧
  ∃ Q : Option Value → qw_M → Prop, qw_Mt tw w Yc av σ Q ∧ match qw_yr Yc with
    | none => ∀ σ', Q none σ' → f rest σ'
    | some .int => ∀ (x : Int32) σ', Q (some (.int x)) σ' → f (.int x :: rest) σ'
    | some .boolean => ∀ (x : Int32) σ', (x = 0 ∨ x = 1) → Q (some (.int x)) σ' → f (.int x :: rest) σ'
    | some .long => ∀ (x : Int64) σ', Q (some (.long x)) σ' → f (.long x :: rest) σ'
    | some (.object _) => (∀ σ', Q (some .null) σ' → f (.null :: rest) σ') ∧ ∀ (k : Nat) σ', Q (some (.ref k)) σ' → f (.ref k :: rest) σ'
    | some _ => ∀ (x : Int32) σ', Q (some (.int x)) σ' → f (.int x :: rest) σ'
/-- ONE INSTRUCTION: what must hold, and with what it goes on (k) or ends (Q) -/
def qw_F (tw : List Cond) (w : qw_Wd) (K : qw_K) (Y : qw_Y) (Q : Option Value → qw_M → Prop) (k : Nat → qw_L → List Value → qw_M → Prop) (i : Instr) (pc : Nat) (ls : qw_L) (st : List Value) (σ : qw_M) : Prop := match i with
  | .iconst n => match n with
    | .ofNat j => k (pc + 1) ls (.int (nI j) :: st) σ
    | .negSucc j => k (pc + 1) ls (.int (Int32.ofInt (.negSucc j)) :: st) σ
  | .bipush n => match n with
    | .ofNat j => match Nat.blt j 128 with
      | true => k (pc + 2) ls (.int (nI j) :: st) σ
      | false => False
    | .negSucc j => match Nat.blt j 128 with
      | true => k (pc + 2) ls (.int (Int32.ofInt (.negSucc j)) :: st) σ
      | false => False
  | .sipush n => match n with
    | .ofNat j => match Nat.blt j 32768 with
      | true => k (pc + 3) ls (.int (nI j) :: st) σ
      | false => False
    | .negSucc _ => False
  | .lconst n => k (pc + 1) ls (.long (Int64.ofNat (n : Nat)) :: st) σ
  | .aconst_null => k (pc + 1) ls (.null :: st) σ
  | .ldc j => match qw_lk (qw_ki K) j with
    | some v => k (pc + 2) ls (.int v :: st) σ
    | none => match qw_lk (qw_ks K) j with
      | some i => match Nat.blt i (qw_nS w) with
        | true => k (pc + 2) ls (.ref (qw_n w + qw_nR w + i) :: st) σ
        | false => False
      | none => False
  | .ldc_w j => match qw_lk (qw_ki K) j with
    | some v => k (pc + 3) ls (.int v :: st) σ
    | none => False
  | .ldc2_w j => match qw_lk (qw_kl K) j with
    | some v => k (pc + 3) ls (.long v :: st) σ
    | none => False
  | .iload_n j => match qw_lk ls (j : Nat) with
    | some (.int x) => k (pc + 1) ls (.int x :: st) σ
    | _ => False
  | .iload j => match qw_lk ls j with
    | some (.int x) => k (pc + 2) ls (.int x :: st) σ
    | _ => False
  | .lload_n j => match qw_lk ls (j : Nat) with
    | some (.long x) => k (pc + 1) ls (.long x :: st) σ
    | _ => False
  | .lload j => match qw_lk ls j with
    | some (.long x) => k (pc + 2) ls (.long x :: st) σ
    | _ => False
  | .aload_n j => match qw_lk ls (j : Nat) with
    | some (.ref x) => k (pc + 1) ls (.ref x :: st) σ
    | some .null => k (pc + 1) ls (.null :: st) σ
    | _ => False
  | .aload j => match qw_lk ls j with
    | some (.ref x) => k (pc + 2) ls (.ref x :: st) σ
    | some .null => k (pc + 2) ls (.null :: st) σ
    | _ => False
  | .istore_n j => match Nat.blt (j : Nat) (qw_ym Y) with
    | true => qw_i1 st fun x r => k (pc + 1) (qw_s1 ls (j : Nat) (.int x)) r σ
    | false => False
  | .istore j => match Nat.blt j (qw_ym Y) with
    | true => qw_i1 st fun x r => k (pc + 2) (qw_s1 ls j (.int x)) r σ
    | false => False
  | .lstore_n j => match Nat.blt ((j : Nat) + 1) (qw_ym Y) with
    | true => qw_l1 st fun x r => k (pc + 1) (qw_s2 ls (j : Nat) (.long x)) r σ
    | false => False
  | .lstore j => match Nat.blt (j + 1) (qw_ym Y) with
    | true => qw_l1 st fun x r => k (pc + 2) (qw_s2 ls j (.long x)) r σ
    | false => False
  | .astore_n j => match Nat.blt (j : Nat) (qw_ym Y), st with
    | true, .ref x :: r => k (pc + 1) (qw_s1 ls (j : Nat) (.ref x)) r σ
    | true, .null :: r => k (pc + 1) (qw_s1 ls (j : Nat) .null) r σ
    | _, _ => False
  | .astore j => match Nat.blt j (qw_ym Y), st with
    | true, .ref x :: r => k (pc + 2) (qw_s1 ls j (.ref x)) r σ
    | true, .null :: r => k (pc + 2) (qw_s1 ls j .null) r σ
    | _, _ => False
  | .iinc j n => match Nat.blt j (qw_ym Y), qw_lk ls j with
    | true, some (.int x) => match n with
      | .ofNat i => k (pc + 3) (qw_s1 ls j (.int (x + nI i))) st σ
      | .negSucc i => k (pc + 3) (qw_s1 ls j (.int (x + Int32.ofInt (.negSucc i)))) st σ
    | _, _ => False
  | .iadd => qw_i2 st fun x y r => k (pc + 1) ls (.int (x + y) :: r) σ
  | .isub => qw_i2 st fun x y r => k (pc + 1) ls (.int (x - y) :: r) σ
  | .imul => qw_i2 st fun x y r => k (pc + 1) ls (.int (x * y) :: r) σ
  | .idiv => qw_i2 st fun x y r => ¬ y = 0 ∧ k (pc + 1) ls (.int (x / y) :: r) σ
  | .irem => qw_i2 st fun x y r => ¬ y = 0 ∧ k (pc + 1) ls (.int (x - x / y * y) :: r) σ
  | .iand => qw_i2 st fun x y r => k (pc + 1) ls (.int (x &&& y) :: r) σ
  | .ior => qw_i2 st fun x y r => k (pc + 1) ls (.int (x ||| y) :: r) σ
  | .ixor => qw_i2 st fun x y r => k (pc + 1) ls (.int (x ^^^ y) :: r) σ
  | .ishl => qw_i2 st fun x y r => k (pc + 1) ls (.int (x <<< (y &&& 31)) :: r) σ
  | .ishr => qw_i2 st fun x y r => k (pc + 1) ls (.int (x >>> (y &&& 31)) :: r) σ
  | .iushr => qw_i2 st fun x y r => k (pc + 1) ls (.int (x.toUInt32 >>> (y.toUInt32 &&& Int32.toUInt32 31)).toInt32 :: r) σ
  | .ladd => qw_l2 st fun x y r => k (pc + 1) ls (.long (x + y) :: r) σ
  | .lsub => qw_l2 st fun x y r => k (pc + 1) ls (.long (x - y) :: r) σ
  | .lmul => qw_l2 st fun x y r => k (pc + 1) ls (.long (x * y) :: r) σ
  | .ldiv => qw_l2 st fun x y r => ¬ y = 0 ∧ k (pc + 1) ls (.long (x / y) :: r) σ
  | .lrem => qw_l2 st fun x y r => ¬ y = 0 ∧ k (pc + 1) ls (.long (x - x / y * y) :: r) σ
  | .lcmp => qw_l2 st fun x y r => k (pc + 1) ls (.int (lg_cmp x y) :: r) σ
  | .lshl => match st with
    | .int y :: .long x :: r => k (pc + 1) ls (.long (x <<< (y.toInt64 &&& 63)) :: r) σ
    | _ => False
  | .i2l => qw_i1 st fun x r => k (pc + 1) ls (.long x.toInt64 :: r) σ
  | .i2b => qw_i1 st fun x r => k (pc + 1) ls (.int x.toInt8.toInt32 :: r) σ
  | .i2s => qw_i1 st fun x r => k (pc + 1) ls (.int x.toInt16.toInt32 :: r) σ
  | .i2c => qw_i1 st fun x r => k (pc + 1) ls (.int (x.toUInt32 % 65536).toInt32 :: r) σ
  | .dup => match st with
    | .int x :: r => k (pc + 1) ls (.int x :: .int x :: r) σ
    | .ref x :: r => k (pc + 1) ls (.ref x :: .ref x :: r) σ
    | _ => False
  | .dup2 => match st with
    | .int y :: .int x :: r => k (pc + 1) ls (.int y :: .int x :: .int y :: .int x :: r) σ
    | .int y :: .ref x :: r => k (pc + 1) ls (.int y :: .ref x :: .int y :: .ref x :: r) σ
    | _ => False
  | .pop => match st with
    | .int _ :: r => k (pc + 1) ls r σ
    | .ref _ :: r => k (pc + 1) ls r σ
    | _ => False
  | .goto off => qw_tg pc off fun t => k t ls st σ
  | .ifCond c off => qw_tg pc off fun t => qw_i1 st fun x r => match c with
    | .eq => qw_br (x = 0) (k t ls r σ) (k (pc + 3) ls r σ)
    | .ne => qw_nb (x = 0) (k t ls r σ) (k (pc + 3) ls r σ)
    | .lt => qw_br (x < 0) (k t ls r σ) (k (pc + 3) ls r σ)
    | .ge => qw_br (0 ≤ x) (k t ls r σ) (k (pc + 3) ls r σ)
    | .gt => qw_br (0 < x) (k t ls r σ) (k (pc + 3) ls r σ)
    | .le => qw_br (x ≤ 0) (k t ls r σ) (k (pc + 3) ls r σ)
  | .if_icmp c off => qw_tg pc off fun t => qw_i2 st fun x y r => match c with
    | .eq => qw_br (x = y) (k t ls r σ) (k (pc + 3) ls r σ)
    | .ne => qw_nb (x = y) (k t ls r σ) (k (pc + 3) ls r σ)
    | .lt => qw_br (x < y) (k t ls r σ) (k (pc + 3) ls r σ)
    | .ge => qw_br (y ≤ x) (k t ls r σ) (k (pc + 3) ls r σ)
    | .gt => qw_br (y < x) (k t ls r σ) (k (pc + 3) ls r σ)
    | .le => qw_br (x ≤ y) (k t ls r σ) (k (pc + 3) ls r σ)
  | .ifnull off => qw_tg pc off fun t => match st with
    | .ref _ :: r => k (pc + 3) ls r σ
    | .null :: r => k t ls r σ
    | _ => False
  | .ifnonnull off => qw_tg pc off fun t => match st with
    | .ref _ :: r => k t ls r σ
    | .null :: r => k (pc + 3) ls r σ
    | _ => False
  | .tableswitch d lo hi offs => qw_i1 st fun x r => (x.toInt < lo ∨ hi < x.toInt → qw_tg pc d fun t => k t ls r σ) ∧ (hi < lo + offs.size ∧ qw_sw pc offs.toList x.toInt lo fun t => k t ls r σ)
  | .getstatic j => match qw_lk (qw_kg K) j with
    | some q => match (qw_sta w)[q]? with
      | some z => match z.2.2.2 with
        | .int x => k (pc + 3) ls (.int x :: st) σ
        | _ => False
      | none => False
    | none => False
  | .getfield j => qw_o1 st fun o r => match Nat.blt o (qw_n w + qw_nR w) with
    | true => match qw_lk (qw_kf K) j with
      | some q => qw_rw w σ o fun ρ => match qw_cf w o ρ with
        | .inr (.inr c) => match Nat.beq c.1 q.1, c.2[q.2]? with
          | true, some v => k (pc + 3) ls (v :: r) σ
          | _, _ => False
        | _ => False
      | none => False
    | false => match qw_lk (qw_kx K) j, Nat.blt (o - (qw_n w + qw_nR w)) (qw_nS w) with
      | some 0, true => k (pc + 3) ls (.ref (qw_n w + (o - (qw_n w + qw_nR w))) :: r) σ
      | some 1, true => k (pc + 3) ls (.int 0 :: r) σ
      | _, _ => False
  | .putfield j => match qw_lk (qw_kf K) j with
    | none => False
    | some q => match st with
      | .int x :: .ref o :: r => match Nat.blt o (qw_n w), qw_cf w o (σ o) with
        | true, .inr (.inr c) => match Nat.beq c.1 q.1, Nat.beq (qw_kd w q.1 q.2) 1 with
          | true, true => k (pc + 3) ls r (qw_pi σ o q.2 x)
          | _, _ => False
        | _, _ => False
      | .long x :: .ref o :: r => match Nat.blt o (qw_n w), qw_cf w o (σ o) with
        | true, .inr (.inr c) => match Nat.beq c.1 q.1, Nat.beq (qw_kd w q.1 q.2) 2 with
          | true, true => k (pc + 3) ls r (qw_pl σ o q.2 x)
          | _, _ => False
        | _, _ => False
      | _ => False
  | .arraylength => qw_o1 st fun o r => match Nat.blt o (qw_n w + qw_nR w) with
    | true => qw_rw w σ o fun ρ => match qw_cf w o ρ with
      | .inl q => match Nat.blt q.1 (qw_nT w) with
        | true => k (pc + 1) ls (.int (nI q.2) :: r) σ
        | false => False
      | _ => False
    | false => False
  | .iaload => match st with
    | .int i :: .ref o :: r => match Nat.blt o (qw_n w + qw_nR w) with
      | true => qw_rw w σ o fun ρ => match qw_cf w o ρ with
        | .inl q => match Nat.beq q.1 0 with
          | true => vp_in i q.2 ∧ k (pc + 1) ls (.int (ρ.1 i.toNatClampNeg) :: r) σ
          | false => False
        | _ => False
      | false => False
    | _ => False
  | .baload => match st with
    | .int i :: .ref o :: r => match Nat.blt o (qw_n w + qw_nR w) with
      | true => qw_rw w σ o fun ρ => match qw_cf w o ρ with
        | .inl q => match Nat.beq q.1 1 with
          | true => vp_in i q.2 ∧ k (pc + 1) ls (.int (ρ.1 i.toNatClampNeg) :: r) σ
          | false => False
        | _ => False
      | false => False
    | _ => False
  | .aaload => match st with
    | .int i :: .ref o :: r => match Nat.blt o (qw_n w), qw_cf w o (σ o) with
      | true, .inr (.inl q) => match Nat.beq q.1 2 with
        | true => vp_in i q.2.1 ∧ (∀ z, q.2.2 i.toNatClampNeg = some z → k (pc + 1) ls (.ref z :: r) σ) ∧ (q.2.2 i.toNatClampNeg = none → k (pc + 1) ls (.null :: r) σ)
        | false => False
      | _, _ => False
    | _ => False
  | .iastore => match st with
    | .int x :: .int i :: .ref o :: r => match Nat.blt o (qw_n w), qw_cf w o (σ o) with
      | true, .inl q => match Nat.beq q.1 0 with
        | true => vp_in i q.2 ∧ k (pc + 1) ls r (qw_pi σ o i.toNatClampNeg x)
        | false => False
      | _, _ => False
    | _ => False
  | .invokevirtual j => match qw_lk (qw_kc K) j with
    | some (some ci, Yc) => match Nat.ble (qw_yp Yc) st.length, st.drop (qw_yp Yc) with
      | true, .ref o :: r => match Nat.blt o (qw_n w + qw_nR w) with
        | true => qw_rw w σ o fun ρ => match qw_cf w o ρ with
          | .inr (.inr c) => match Nat.beq c.1 ci, Nat.blt ci 13 with
            | true, true => qw_cal tw w Y Yc (.ref o :: (st.take (qw_yp Yc)).reverse) r σ fun st' σ' => k (pc + 3) ls st' σ'
            | _, _ => False
          | _ => False
        | false => match Nat.beq ci 13, Nat.blt (o - (qw_n w + qw_nR w)) (qw_nS w) with
          | true, true => qw_cal tw w Y Yc (.ref o :: (st.take (qw_yp Yc)).reverse) r σ fun st' σ' => k (pc + 3) ls st' σ'
          | _, _ => False
      | _, _ => False
    | _ => False
  | .invokestatic j => match qw_lk (qw_kc K) j with
    | some (none, Yc) => match Nat.ble (qw_yp Yc) st.length with
      | true => qw_cal tw w Y Yc (st.take (qw_yp Yc)).reverse (st.drop (qw_yp Yc)) σ fun st' σ' => k (pc + 3) ls st' σ'
      | false => False
    | some (some _, _) => False
    | none => match Nat.beq j (qw_ka K) && Nat.blt 0 j, st with
      | true, .int n :: .int dp :: .ref o :: .int sp :: .ref o0 :: [] => match Nat.blt o (qw_n w), Nat.blt o0 (qw_n w), qw_cf w o (σ o), qw_cf w o0 (σ o0) with
        | true, true, .inl q, .inl q0 => match Nat.beq q.1 0, Nat.beq q0.1 0 with
          | true, true => (¬ sp < 0 ∧ ¬ dp < 0 ∧ ¬ n < 0 ∧ sp.toNatClampNeg + n.toNatClampNeg ≤ q0.2 ∧ dp.toNatClampNeg + n.toNatClampNeg ≤ q.2) ∧ (1 ≤ qw_yf Y ∧ nativeFrameWords "java/lang/System" "arraycopy" 5 + 11 ≤ qw_yl Y) ∧ k (pc + 3) ls [] (qw_pc σ o (σ o0).1 sp.toNatClampNeg dp.toNatClampNeg n.toNatClampNeg)
          | _, _ => False
        | _, _, _, _ => False
      | _, _ => False
  | .return_ => match st with
    | [] => match qw_yr Y with
      | none => Q none σ
      | some _ => False
    | _ => False
  | .ireturn => match st with
    | .int x :: [] => match qw_yr Y with
      | some .int => Q (some (.int x)) σ
      | some .boolean => (x = 0 ∨ x = 1) ∧ Q (some (.int x)) σ
      | some .byte => narrow .byte (.int x) = .int x ∧ Q (some (.int x)) σ
      | _ => False
    | _ => False
  | .lreturn => match st with
    | .long x :: [] => match qw_yr Y with
      | some .long => Q (some (.long x)) σ
      | _ => False
    | _ => False
  | .areturn => match st with
    | .ref x :: [] => match qw_yr Y with
      | some (.object _) => Q (some (.ref x)) σ
      | _ => False
    | .null :: [] => match qw_yr Y with
      | some (.object _) => Q (some .null) σ
      | _ => False
    | _ => False
  | _ => False
def qw_find (code : List (Nat × Instr)) (pc : Nat) : List (Nat × Instr) := match code with
  | [] => []
  | q :: l => match Nat.beq q.1 pc with
    | true => q :: l
    | false => qw_find l pc
def qw_has (l : List Nat) (k : Nat) : Bool := match l with
  | [] => false
  | q :: l => match Nat.beq q k with
    | true => true
    | false => qw_has l k
/-- the rest of the code, if it goes on at pc; else it is sought -/
def qw_nx (code rest : List (Nat × Instr)) (pc : Nat) : List (Nat × Instr) := match rest with
  | [] => qw_find code pc
  | q :: l => match Nat.beq q.1 pc with
    | true => q :: l
    | false => qw_find code pc
/-- n INSTRUCTIONS, up to a cut -/
def qw_run (tw : List Cond) (w : qw_Wd) (K : qw_K) (Y : qw_Y) (code : List (Nat × Instr)) (cut : List Nat) (Q : Option Value → qw_M → Prop) (P : Nat → qw_L → List Value → qw_M → Prop) (n : Nat) : Nat → List (Nat × Instr) → qw_L → List Value → qw_M → Prop := match n with
  | 0 => fun pc _ ls st σ => P pc ls st σ
  | n + 1 => fun pc rest ls st σ => match rest with
    | [] => P pc ls st σ
    | q :: tl => match Nat.beq q.1 pc with
      | false => P pc ls st σ
      | true => qw_F tw w K Y Q (fun pc' ls' st' σ' => match qw_has cut pc' with
          | true => P pc' ls' st' σ'
          | false => qw_run tw w K Y code cut Q P n pc' (qw_nx code tl pc') ls' st' σ') q.2 pc ls st σ
end
section
/-! CORE 2: what the conditions of CORE 1 say holds of the machine -/
def qw_wf (w : qw_Wd) : Prop :=
  (∀ k r q, qw_cf w k r = .inl q → ∀ r', qw_cf w k r' = .inl q) ∧
  (∀ k r c, qw_cf w k r = .inr (.inr c) → ∀ j, (qw_kd w c.1 j = 1 → j < c.2.length ∧ ∀ x, qw_cf w k (upd r.1 j x, r.2) = .inr (.inr (c.1, c.2.set j (.int x)))) ∧ (qw_kd w c.1 j = 2 → j < c.2.length ∧ ∀ x, qw_cf w k (r.1, vp_updL r.2 j x) = .inr (.inr (c.1, c.2.set j (.long x)))))
def qw_cok (tw : List Cond) (w : qw_Wd) : Prop := ∀ ci q, (qw_cl w)[ci]? = some q → (∃ ty0 : Nat → FieldType, ∀ k, k < q.2.2 → parseFieldDescriptor (q.2.1 k).2.2.1 = some (ty0 k)) ∧ (∀ a, a < q.2.2 → ∀ b, b < q.2.2 → a ≠ b → (q.2.1 a).2.1 ≠ (q.2.1 b).2.1) ∧ (∀ x ∈ u_ws q.1 q.2.1 q.2.2, x ∈ tw) ∧
  ∀ j, (qw_kd w ci j = 1 → j < q.2.2 ∧ parseFieldDescriptor (q.2.1 j).2.2.1 = some .int ∧ (q.2.1 j).2.2.2 = false) ∧ (qw_kd w ci j = 2 → j < q.2.2 ∧ parseFieldDescriptor (q.2.1 j).2.2.1 = some .long ∧ (q.2.1 j).2.2.2 = false)
def qw_tok (w : qw_Wd) : Prop := qw_ty w 0 = .int ∧ qw_ty w 1 = .byte ∧ (∃ C, qw_ty w 2 = .object C) ∧ 2 < qw_nT w ∧ (qw_cl w)[13]? = none
def qw_kok (tw : List Cond) (w : qw_Wd) (K : qw_K) : Prop :=
  (∀ j q, qw_lk (qw_kf K) j = some q → ∃ c, (qw_cl w)[q.1]? = some c ∧ q.2 < c.2.2 ∧ (Cond.fieldLink (qw_kn K) j (c.2.1 q.2).1 (c.2.1 q.2).2.1 (c.2.1 q.2).2.2.1 ∈ tw ∨ ∃ host, (qw_kn K, j, (c.2.1 q.2).1, (c.2.1 q.2).2.1, (c.2.1 q.2).2.2.1, host) ∈ qw_nst w)) ∧
  (∀ j q, qw_lk (qw_kc K) j = some q → qw_yc q.2 ∈ tw ∧ Cond.methodLink (qw_kn K) j (qw_yn q.2) ∈ tw ∧ Cond.initialized (qw_yn q.2).cls ∈ tw ∧ ((qw_yn q.2).cls ≠ "java/lang/invoke/MethodHandle" ∧ (qw_yn q.2).cls ≠ "java/lang/invoke/VarHandle" ∧ (parseMethodDescriptor (qw_yn q.2).desc).map (fun d => d.parameters.length) = some (qw_yp q.2)) ∧
    (q.1 = none → Cond.static (qw_yn q.2) ∈ tw) ∧ (∀ ci, q.1 = some ci → Cond.instanceMethod (qw_yn q.2) ∈ tw ∧ Cond.selects (qw_yn q.2).cls (qw_yn q.2) (qw_yn q.2) ∈ tw ∧ ((ci = 13 ∧ (qw_yn q.2).cls = "java/lang/String") ∨ ∃ c, (qw_cl w)[ci]? = some c ∧ c.1 = (qw_yn q.2).cls))) ∧
  (∀ j v, qw_lk (qw_ki K) j = some v → Cond.constant (qw_kn K) j v ∈ tw) ∧
  (∀ j v, qw_lk (qw_kl K) j = some v → Cond.constantLong (qw_kn K) j v ∈ tw) ∧
  (∀ j q z, qw_lk (qw_kg K) j = some q → (qw_sta w)[q]? = some z → Cond.fieldLink (qw_kn K) j z.1 z.2.1 z.2.2.1 ∈ tw) ∧
  (∀ j, (Nat.beq j (qw_ka K) && Nat.blt 0 j) = true → Cond.methodLink (qw_kn K) j arraycopyName ∈ tw ∧ Cond.native arraycopyName ∈ tw ∧ Cond.static arraycopyName ∈ tw ∧ Cond.initialized "java/lang/System" ∈ tw) ∧
  (∀ j i, qw_lk (qw_ks K) j = some i → ∃ tx, (qw_kn K, j, tx, i) ∈ qw_strs w) ∧
  (∀ j i, qw_lk (qw_kx K) j = some i → (i = 0 → Cond.fieldLink (qw_kn K) j "java/lang/String" "value" "[B" ∈ tw) ∧ (i = 1 → Cond.fieldLink (qw_kn K) j "java/lang/String" "coder" "B" ∈ tw))
def qw_good (tw : List Cond) : Prop := ∀ x ∈ tw, (x.onTables && x.keeps) = true ∨ ∃ ty, x = .arrayClass ty
def qw_ok (tw : List Cond) (w : qw_Wd) (K : qw_K) : Prop := qw_good tw ∧ qw_wf w ∧ qw_cok tw w ∧ qw_tok w ∧ qw_kok tw w K
/-- the machine in a method's frame -/
def qw_At (tw : List Cond) (w : qw_Wd) (K : qw_K) (Y : qw_Y) (p : Program) (s : State) (m : MethodId) (args : Array Value) (meth : Method) (c : Code) (g : qw_Ad) : Prop :=
  p.tables.exec = Jvm.exec ∧ c.code = qw_yb Y ∧ meth.sig.returnType = qw_yr Y ∧ c.maxLocals = qw_ym Y ∧ s.vm.findClass (qw_kn K) = some m.cls ∧ (∀ x ∈ qw_yc Y :: tw, x.before args s = true) ∧ meth.locks = false ∧ qw_I w g ∧ va_K g.1 (qw_cl w) (qw_ts w g) s ∧ qw_env w g s s.heap
def qw_Ev (tw : List Cond) (w : qw_Wd) (K : qw_K) (Y : qw_Y) (Q : Option Value → qw_M → Prop) (pc : Nat) (ls : qw_L) (st : List Value) (σ : qw_M) : Prop :=
  ∀ (p : Program) (l : Launch) (e : Env) (s : State) (m : MethodId) (args : Array Value) (below : List Frame) (meth : Method) (c : Code) (g : qw_Ad), qw_At tw w K Y p s m args meth c g → ∀ (H : Heap) (locs : List Loc), qw_P w g σ H → va_S (qw_A w g) s.heap H locs → ∀ lsA : Array Slot, lv_has lsA (qw_ym Y) (qw_lm g.2.1 ls) →
    W p l e (qw_rm Y) s m args below meth c H locs 0 0 (MQ below (qw_Z w g Y Q) args s 0 0 (qw_A w g)) (F0 m pc lsA (st.map (qw_rv g.2.1)))
section QS1
variable {tw : List Cond} {w : qw_Wd} {K : qw_K} {Y : qw_Y} {Q : Option Value → qw_M → Prop} {g : qw_Ad} {σ : qw_M}
theorem qw_ws_at {k : Nat} (h : k < qw_n w) : (qw_ws w g σ)[k]? = some (g.2.1 k, qw_re g (σ k) (qw_cf w k (σ k))) := by
  simp [qw_ws, h]
theorem qw_wr_at {k : Nat} (h : k < qw_nR w) : (qw_wr w g)[k]? = some (g.2.1 (qw_n w + k), qw_re g (qw_ro w (qw_n w + k)) (qw_cf w (qw_n w + k) (qw_ro w (qw_n w + k)))) := by
  simp [qw_wr, h]
theorem qw_ts_at {t : Nat} (h : t < qw_nT w) : (qw_ts w g)[t]? = some (g.2.2 t, qw_ty w t) := by
  simp [qw_ts, h]
theorem qw_rw_inv {k : Nat} {f : qw_R → Prop} (h : qw_rw w σ k f) : f (qw_row w σ k) := by
  unfold qw_rw at h
  unfold qw_row
  cases e : Nat.blt k (qw_n w) with
  | true =>
    rw [e] at h
    exact h
  | false =>
    rw [e] at h
    exact h
theorem qw_ws_of {k : Nat} {q : Nat × va_E} (h : (qw_ws w g σ)[k]? = some q) : k < qw_n w ∧ q = (g.2.1 k, qw_re g (σ k) (qw_cf w k (σ k))) := by
  have hk : k < qw_n w := by
    have := (List.getElem?_eq_some_iff.mp h).1
    simpa [qw_ws] using this
  rw [qw_ws_at hk] at h
  exact ⟨hk, (Option.some.inj h).symm⟩
theorem qw_D (hI : qw_I w g) : va_D (qw_A w g) (qw_ws w g σ) := by
  refine ⟨fun i j p q hi hj h => ?_, fun k q hk => ?_⟩
  · obtain ⟨h1, rfl⟩ := qw_ws_of hi
    obtain ⟨h2, rfl⟩ := qw_ws_of hj
    exact hI i j h1 h2 h
  · obtain ⟨h1, rfl⟩ := qw_ws_of hk
    exact ⟨k, h1, rfl⟩
theorem qw_ws_set {k : Nat} (h : k < qw_n w) {r : qw_R} {X : va_E} (he : qw_re g r (qw_cf w k r) = X) : (qw_ws w g σ).set k (g.2.1 k, X) = qw_ws w g (qw_up σ k r) := by
  subst he
  apply List.ext_getElem?
  intro j
  by_cases hj : j = k
  · subst hj
    rw [List.getElem?_set_self (by simpa [qw_ws] using h), qw_ws_at h]
    simp [qw_up]
  · rw [List.getElem?_set_ne (Ne.symm hj)]
    by_cases hl : j < qw_n w
    · rw [qw_ws_at hl, qw_ws_at hl]
      simp [qw_up, hj]
    · rw [List.getElem?_eq_none (by simp [qw_ws]; omega), List.getElem?_eq_none (by simp [qw_ws]; omega)]
theorem qw_lk_mem {α : Type} : ∀ {l : List (Nat × α)} {k : Nat} {v : α}, qw_lk l k = some v → (k, v) ∈ l
  | [], k, v, h => by simp [qw_lk] at h
  | q :: l, k, v, h => by
    unfold qw_lk at h
    split at h
    · rename_i hb
      have hb := Nat.eq_of_beq_eq_true hb
      cases h
      subst hb
      exact List.mem_cons_self
    · exact List.mem_cons_of_mem _ (qw_lk_mem h)
theorem qw_loc {lsA : Array Slot} {n : Nat} {a : Nat → Nat} {ls : qw_L} (h : lv_has lsA n (qw_lm a ls)) {j : Nat} {v : Value} (hv : qw_lk ls j = some v) : lsA[j]? = some (.val (qw_rv a v)) :=
  h.2.2 (j, qw_rv a v) (List.mem_map.mpr ⟨(j, v), qw_lk_mem hv, rfl⟩)
theorem qw_sins_mem {p q : Nat × Value} : ∀ {l : qw_L}, q ∈ qw_sins p l → q = p ∨ q ∈ l
  | [], h => by
    unfold qw_sins at h
    exact Or.inl (List.mem_singleton.mp h)
  | x :: l, h => by
    unfold qw_sins at h
    split at h
    · rcases List.mem_cons.mp h with e | e
      · exact Or.inr (e ▸ List.mem_cons_self)
      · rcases qw_sins_mem e with e | e
        · exact Or.inl e
        · exact Or.inr (List.mem_cons_of_mem _ e)
    · rcases List.mem_cons.mp h with e | e
      · exact Or.inl e
      · exact Or.inr e
theorem qw_cat (a : Nat → Nat) (v : Value) : (qw_rv a v).category = v.category := by cases v <;> rfl
theorem qw_has1 {lsA : Array Slot} {n : Nat} {a : Nat → Nat} {ls : qw_L} {i : Nat} {v : Value} (h : lv_has lsA n ((i, qw_rv a v) :: (qw_lm a ls).filter (fun q => !(q.1 == i) && !(q.1 + 1 == i && q.2.category == 2)))) : lv_has lsA n (qw_lm a (qw_s1 ls i v)) := by
  refine ⟨h.1, h.2.1, fun q hq => ?_⟩
  obtain ⟨q0, h0, rfl⟩ := List.mem_map.mp hq
  rcases qw_sins_mem h0 with rfl | h1
  · exact h.2.2 _ List.mem_cons_self
  · refine h.2.2 _ (List.mem_cons_of_mem _ (List.mem_filter.mpr ⟨List.mem_map.mpr ⟨q0, (List.mem_filter.mp h1).1, rfl⟩, ?_⟩))
    have h2 := (List.mem_filter.mp h1).2
    simpa only [qw_cat] using h2
theorem qw_has2 {lsA : Array Slot} {n : Nat} {a : Nat → Nat} {ls : qw_L} {i : Nat} {v : Value} (h : lv_has lsA n ((i, qw_rv a v) :: (qw_lm a ls).filter (fun q => !(q.1 == i) && (!(q.1 == i + 1) && !(q.1 + 1 == i && q.2.category == 2))))) : lv_has lsA n (qw_lm a (qw_s2 ls i v)) := by
  refine ⟨h.1, h.2.1, fun q hq => ?_⟩
  obtain ⟨q0, h0, rfl⟩ := List.mem_map.mp hq
  rcases qw_sins_mem h0 with rfl | h1
  · exact h.2.2 _ List.mem_cons_self
  · refine h.2.2 _ (List.mem_cons_of_mem _ (List.mem_filter.mpr ⟨List.mem_map.mpr ⟨q0, (List.mem_filter.mp h1).1, rfl⟩, ?_⟩))
    have h2 := (List.mem_filter.mp h1).2
    simpa only [qw_cat] using h2
theorem qw_tg_inv {pc : Nat} {off : Int} {f : Nat → Prop} (h : qw_tg pc off f) : ∃ t : Nat, (pc : Int) + off = (t : Int) ∧ f t := by
  unfold qw_tg at h
  split at h
  · rename_i t ht
    exact ⟨t, ht, h⟩
  · exact h.elim
theorem qw_sw_inv {pc : Nat} {x : Int} {f : Nat → Prop} : ∀ {offs : List Int} {v : Int}, qw_sw pc offs x v f → ∀ (j : Nat) (off : Int), offs[j]? = some off → x = v + j → qw_tg pc off f
  | [], v, _, j, off, h, _ => by simp at h
  | o :: l, v, hs, j, off, h, hx => by
    obtain ⟨h1, h2⟩ := hs
    cases j with
    | zero =>
      simp at h
      subst h
      exact h1 (by simpa using hx)
    | succ j => exact qw_sw_inv h2 j off (by simpa using h) (by rw [hx]; push_cast; omega)
theorem qw_i1_inv {st : List Value} {f : Int32 → List Value → Prop} (h : qw_i1 st f) : ∃ x r, st = .int x :: r ∧ f x r := by
  unfold qw_i1 at h
  split at h
  · exact ⟨_, _, rfl, h⟩
  · exact h.elim
theorem qw_i2_inv {st : List Value} {f : Int32 → Int32 → List Value → Prop} (h : qw_i2 st f) : ∃ x y r, st = .int y :: .int x :: r ∧ f x y r := by
  unfold qw_i2 at h
  split at h
  · exact ⟨_, _, _, rfl, h⟩
  · exact h.elim
theorem qw_l1_inv {st : List Value} {f : Int64 → List Value → Prop} (h : qw_l1 st f) : ∃ x r, st = .long x :: r ∧ f x r := by
  unfold qw_l1 at h
  split at h
  · exact ⟨_, _, rfl, h⟩
  · exact h.elim
theorem qw_l2_inv {st : List Value} {f : Int64 → Int64 → List Value → Prop} (h : qw_l2 st f) : ∃ x y r, st = .long y :: .long x :: r ∧ f x y r := by
  unfold qw_l2 at h
  split at h
  · exact ⟨_, _, _, rfl, h⟩
  · exact h.elim
theorem qw_o1_inv {st : List Value} {f : Nat → List Value → Prop} (h : qw_o1 st f) : ∃ o r, st = .ref o :: r ∧ f o r := by
  unfold qw_o1 at h
  split at h
  · exact ⟨_, _, rfl, h⟩
  · exact h.elim
theorem qw_dec1 {cc : ByteArray} {pc : Nat} {i : Instr} (h : qw_dec cc pc i) (hi : qw_isw i = false) : decode cc pc = .ok (i, qw_len i) := by
  obtain ⟨n, h1, h2 | h2⟩ := h
  · rw [h1, h2]
  · rw [hi] at h2; cases h2
theorem qw_okb_dec {cc : ByteArray} {q : Nat × Instr} (h : qw_okb cc q = true) : qw_dec cc q.1 q.2 := by
  unfold qw_okb at h
  split at h
  · rename_i j n hd
    simp only [Bool.and_eq_true, decide_eq_true_eq, Bool.or_eq_true] at h
    obtain ⟨h1, h2⟩ := h
    refine ⟨n, by rw [hd, h1], h2.imp (fun z => Nat.eq_of_beq_eq_true z) id⟩
  · cases h
/-- a cell that may be read, where it lies -/
theorem qw_cell {H0 H : Heap} {U : State} {locs : List Loc} (hP : qw_P w g σ H) (hE : qw_env w g U H0) (hS : va_S (qw_A w g) H0 H locs) {o : Nat} (ho : o < qw_n w + qw_nR w) : ∃ (ws : va_W) (q0 : Nat), va_P g.1 (qw_cl w) ws H ∧ ws[q0]? = some (g.2.1 o, qw_re g (qw_row w σ o) (qw_cf w o (qw_row w σ o))) := by
  by_cases h : o < qw_n w
  · refine ⟨_, o, hP, ?_⟩
    rw [qw_ws_at h]
    have : Nat.blt o (qw_n w) = true := Nat.ble_eq_true_of_le h
    simp only [qw_row, this]
  · obtain ⟨j, rfl⟩ : ∃ j, o = qw_n w + j := ⟨o - qw_n w, by omega⟩
    have hj : j < qw_nR w := by omega
    refine ⟨qw_wr w g, j, ?_, ?_⟩
    · refine hE.1.kept (fun k q hk => hS.2.1 _ (hE.1 k q hk).lt ?_)
      have hk2 : k < qw_nR w := by
        have := (List.getElem?_eq_some_iff.mp hk).1
        simpa [qw_wr] using this
      rw [qw_wr_at hk2] at hk
      cases hk
      exact hE.2.1 k hk2
    · rw [qw_wr_at hj]
      have : Nat.blt (qw_n w + j) (qw_n w) = false := by
        cases hb : Nat.blt (qw_n w + j) (qw_n w) with
        | false => rfl
        | true => exact absurd (Nat.le_of_ble_eq_true hb) (by omega)
      simp only [qw_row, this]
end QS1
end
section
/-! CORE 3: one instruction, on the machine -/
section QS2
variable {tw : List Cond} {w : qw_Wd} {K : qw_K} {Y : qw_Y} {Q : Option Value → qw_M → Prop}
theorem qw_P.put {g : qw_Ad} {σ : qw_M} {H : Heap} {o : Nat} {r : qw_R} {X : va_E} (ho : o < qw_n w) (he : qw_re g r (qw_cf w o r) = X) (h : va_P g.1 (qw_cl w) ((qw_ws w g σ).set o (g.2.1 o, X)) H) : qw_P w g (qw_up σ o r) H := by
  rw [qw_ws_set ho he] at h
  exact h
theorem qw_lt {a b : Nat} (h : Nat.blt a b = true) : a < b := Nat.le_of_ble_eq_true h
theorem qw_blind {g : qw_Ad} {av : List Value} {σ : qw_M} : FrameBlind (va_Pc av (fun U => qw_P w g σ U.heap ∧ va_K g.1 (qw_cl w) (qw_ts w g) U ∧ qw_env w g U U.heap)) := fun a U f mk h =>
  ⟨h.1, h.2.1, va_K.moved (u := U) (U := U.calling f mk a) (Vm.Alike.refl U.vm) h.2.2.1, h.2.2.2.1, h.2.2.2.2.1, fun q hq => va_Z.moved (u := U) (U := U.calling f mk a) (Vm.Alike.refl U.vm) (h.2.2.2.2.2.1 q hq), fun q hq => va_Nw.same (u := U) (U := U.calling f mk a) rfl rfl (h.2.2.2.2.2.2.1 q hq), fun i hi => ⟨va_O.moved (u := U) (U := U.calling f mk a) (Vm.Alike.refl U.vm) (h.2.2.2.2.2.2.2.1 i hi).1, va_OF.moved (u := U) (U := U.calling f mk a) (Vm.Alike.refl U.vm) (h.2.2.2.2.2.2.2.1 i hi).2.1, va_OF.moved (u := U) (U := U.calling f mk a) (Vm.Alike.refl U.vm) (h.2.2.2.2.2.2.2.1 i hi).2.2⟩, fun q hq => vk_R.same (u := U) (U := U.calling f mk a) rfl (h.2.2.2.2.2.2.2.2 q hq)⟩
theorem qw_env.to {g : qw_Ad} {u U : State} {H H1 : Heap} {locs : List Loc} (h : qw_env w g u H) (hW : u.WarmedH U.vm) (hS : va_S (qw_A w g) H H1 locs) : qw_env w g U H1 := by
  refine ⟨h.1.kept (fun k q hk => hS.2.1 _ (h.1 k q hk).lt ?_), h.2.1, fun q hq => va_Z.moved hW.alike ((h.2.2.1 q hq).kept (fun a h1 h2 => hS.2.1 a h1 h2)), fun q hq => va_Nw.warmF hW (h.2.2.2.1 q hq), fun i hi => ⟨((h.2.2.2.2.1 i hi).1.kept (fun a h1 h2 => hS.2.1 a h1 h2)).moved hW.alike, ((h.2.2.2.2.1 i hi).2.1.kept (fun a h1 h2 => hS.2.1 a h1 h2)).moved hW.alike, ((h.2.2.2.2.1 i hi).2.2.kept (fun a h1 h2 => hS.2.1 a h1 h2)).moved hW.alike⟩, fun q hq => vk_R.warm hW (h.2.2.2.2.2 q hq)⟩
  have hk2 : k < qw_nR w := by
    have := (List.getElem?_eq_some_iff.mp hk).1
    simpa [qw_wr] using this
  rw [qw_wr_at hk2] at hk
  cases hk
  exact h.2.1 k hk2
/-- behind a call -/
theorem qw_go {p : Program} {l : Launch} {e : Env} {R : Room} {s : State} {m : MethodId} {args : Array Value} {below : List Frame} {meth : Method} {c : Code} {g : qw_Ad} {H H0 : Heap} {locs : List Loc} {Qf : State → Prop} {pc : Nat} {ls : Array Slot} {rest st0 : List Value} {a : Array Value} {Yc : qw_Y} {Qc : Option Value → qw_M → Prop}
    (hr : va_Run p l e R s m args below meth c H locs 0 0 0 0 (F0 m pc ls st0) rest (qw_Z w g Yc Qc a) (qw_A w g)) (hS : va_S (qw_A w g) H0 H locs)
    (kk : ∀ (r : Option Value) (σ' : qw_M) (H1 : Heap) (locs1 : List Loc), qw_sh (qw_yr Yc) r → Qc r σ' → qw_P w g σ' H1 → va_S (qw_A w g) H0 H1 locs1 → W p l e R s m args below meth c H1 locs1 0 0 Qf (F0 m (pc + 3) ls ((r.map (qw_rv g.2.1)).toList ++ rest))) : W p l e R s m args below meth c H locs 0 0 Qf (F0 m pc ls st0) := by
  intro T hT X
  obtain ⟨v, st₀, t, T', L, h0, X', hL, e1, e2, ⟨⟨r, σ', hv, hp, hq, hb⟩, hz, hk⟩, st⟩ := hr T hT X
  cases hv
  rw [h0] at hz hk
  obtain ⟨t2, a1, b1⟩ := kk r σ' T'.heap (locs ++ L) hp hq (by rw [e1]; exact hb)
    ⟨Nat.le_trans hS.1 (by rw [e1]; exact hz), fun q h1 h2 => by rw [e1, hk q (Nat.lt_of_lt_of_le h1 hS.1) (fun z => h2 z)]; exact hS.2.1 q h1 h2, fun q hq => by
      rcases List.mem_append.mp hq with h | h
      · exact hS.2.2 q h
      · exact hL q h⟩ T' rfl X'
  exact ⟨t2, st t2 a1, b1⟩
/-- a call's end, by the kind of the answer -/
theorem qw_cont {av rest : List Value} {σ : qw_M} {Yc : qw_Y} {f : List Value → qw_M → Prop} (h : qw_cal tw w Y Yc av rest σ f) : (rest.map fun v => v.category).sum ≤ 8 ∧ qw_yf Yc + 1 ≤ qw_yf Y ∧ 8 + (qw_ym Yc + 11) + qw_yl Yc ≤ qw_yl Y ∧ ∃ Qc, qw_Mt tw w Yc av σ Qc ∧ ∀ r σ', qw_sh (qw_yr Yc) r → Qc r σ' → f (r.toList ++ rest) σ' := by
  obtain ⟨h1, Qc, h2, h3⟩ := h
  split at h1
  · rename_i e1 e2 e3
    refine ⟨Nat.le_of_ble_eq_true e1, Nat.le_of_ble_eq_true e2, Nat.le_of_ble_eq_true e3, Qc, h2, fun r σ' hs hq => ?_⟩
    generalize qw_yr Yc = t at hs h3
    cases t with
    | none =>
      have hs : r = none := hs
      subst hs
      exact h3 σ' hq
    | some t =>
      cases t with
      | int => obtain ⟨x, rfl⟩ := hs; exact h3 x σ' hq
      | long => obtain ⟨x, rfl⟩ := hs; exact h3 x σ' hq
      | boolean =>
        rcases hs with rfl | rfl
        · exact h3 0 σ' (Or.inl rfl) hq
        · exact h3 1 σ' (Or.inr rfl) hq
      | object C =>
        rcases hs with rfl | ⟨k, rfl⟩
        · exact h3.1 σ' hq
        · exact h3.2 k σ' hq
      | byte => obtain ⟨x, rfl⟩ := hs; exact h3 x σ' hq
      | char => obtain ⟨x, rfl⟩ := hs; exact h3 x σ' hq
      | short => obtain ⟨x, rfl⟩ := hs; exact h3 x σ' hq
      | float => obtain ⟨x, rfl⟩ := hs; exact h3 x σ' hq
      | double => obtain ⟨x, rfl⟩ := hs; exact h3 x σ' hq
      | array C => obtain ⟨x, rfl⟩ := hs; exact h3 x σ' hq
  · exact h1.elim
/-- what a branch of numbers asks, on the machine -/
theorem qw_Ev.br {c a b : Prop} {A B : Prop} (h : qw_br c a b) (ha : a → A) (hb : b → B) : (c → A) ∧ (¬ c → B) := ⟨fun z => ha (h.1 z), fun z => hb (h.2 z)⟩
theorem qw_Ev.nb {c a b : Prop} {A B : Prop} (h : qw_nb c a b) (ha : a → A) (hb : b → B) : (¬ c → A) ∧ (c → B) := ⟨fun z => ha (h.1 z), fun z => hb (h.2 z)⟩
theorem qw_toS {g : qw_Ad} {lsA : Array Slot} {ls : qw_L} {n : Nat} (h : lv_has lsA n ls) : lsA.size = n := h.1
end QS2
end
section
/-! CORE 4: each instruction, on the machine; runs of instructions -/
section QS3
variable {tw : List Cond} {w : qw_Wd} {K : qw_K} {Y : qw_Y} {Q : Option Value → qw_M → Prop}
/-- an instruction that only goes on -/
def qw_On (tw : List Cond) (w : qw_Wd) (K : qw_K) (Y : qw_Y) (Q : Option Value → qw_M → Prop) (k : Nat → qw_L → List Value → qw_M → Prop) : Prop := ∀ pc' ls' st' σ', k pc' ls' st' σ' → qw_Ev tw w K Y Q pc' ls' st' σ'

theorem qw_ofN (j : Nat) : Int32.ofInt (Int.ofNat j) = nI j := Int32.ofInt_eq_ofNat
theorem qw_b8 (j : Nat) (h : j < 128) : (Int8.ofInt (Int.ofNat j)).toInt32 = nI j := by
  apply Int32.toInt_inj.mp
  rw [Int8.toInt_toInt32, Int8.toInt_ofInt, nI_toInt (by omega)]
  show Int.bmod (j : Int) 256 = (j : Int)
  rw [Int.bmod_eq_of_le] <;> omega
theorem qw_n8 (j : Nat) (h : j < 128) : (Int8.ofInt (Int.negSucc j)).toInt32 = Int32.ofInt (Int.negSucc j) := by
  apply Int32.toInt_inj.mp
  rw [Int8.toInt_toInt32, Int8.toInt_ofInt, Int32.toInt_ofInt]
  show Int.bmod (Int.negSucc j) 256 = Int.bmod (Int.negSucc j) 4294967296
  rw [Int.bmod_eq_of_le, Int.bmod_eq_of_le] <;> omega
theorem qw_b16 (j : Nat) (h : j < 32768) : (Int16.ofInt (Int.ofNat j)).toInt32 = nI j := by
  apply Int32.toInt_inj.mp
  rw [Int16.toInt_toInt32, Int16.toInt_ofInt, nI_toInt (by omega)]
  show Int.bmod (j : Int) 65536 = (j : Int)
  rw [Int.bmod_eq_of_le] <;> omega
theorem qw_step_iconst (hok : qw_ok tw w K) {k : Nat → qw_L → List Value → qw_M → Prop} (hk : qw_On tw w K Y Q k) {pc : Nat} {ls : qw_L} {st : List Value} {σ : qw_M} {n : Int} (hd : qw_dec (qw_yb Y) pc (.iconst n)) (hF : qw_F tw w K Y Q k (.iconst n) pc ls st σ) : qw_Ev tw w K Y Q pc ls st σ := by
  have hd := qw_dec1 hd rfl
  intro p l e s m args below meth c g C0 H locs hP hS lsA hl
  obtain ⟨hx, hb, hret, hml, hown, hts, hlk, hI, hK, hE⟩ := id C0
  obtain ⟨hgood, hwf, hcok, htok, hkok⟩ := id hok
  cases n with
  | ofNat j => exact lv_iconst hx hb hd (qw_ofN j) (hk _ _ _ _ hF p l e s m args below meth c g C0 H locs hP hS lsA hl)
  | negSucc j => exact lv_iconst hx hb hd rfl (hk _ _ _ _ hF p l e s m args below meth c g C0 H locs hP hS lsA hl)
theorem qw_step_bipush (hok : qw_ok tw w K) {k : Nat → qw_L → List Value → qw_M → Prop} (hk : qw_On tw w K Y Q k) {pc : Nat} {ls : qw_L} {st : List Value} {σ : qw_M} {n : Int} (hd : qw_dec (qw_yb Y) pc (.bipush n)) (hF : qw_F tw w K Y Q k (.bipush n) pc ls st σ) : qw_Ev tw w K Y Q pc ls st σ := by
  have hd := qw_dec1 hd rfl
  intro p l e s m args below meth c g C0 H locs hP hS lsA hl
  obtain ⟨hx, hb, hret, hml, hown, hts, hlk, hI, hK, hE⟩ := id C0
  obtain ⟨hgood, hwf, hcok, htok, hkok⟩ := id hok
  cases n with
  | ofNat j =>
    dsimp only [qw_F] at hF
    split at hF <;> try exact False.elim hF
    rename_i he
    exact lv_bipush hx hb hd (qw_b8 j (qw_lt he)) (hk _ _ _ _ hF p l e s m args below meth c g C0 H locs hP hS lsA hl)
  | negSucc j =>
    dsimp only [qw_F] at hF
    split at hF <;> try exact False.elim hF
    rename_i he
    exact lv_bipush hx hb hd (qw_n8 j (qw_lt he)) (hk _ _ _ _ hF p l e s m args below meth c g C0 H locs hP hS lsA hl)
theorem qw_step_sipush (hok : qw_ok tw w K) {k : Nat → qw_L → List Value → qw_M → Prop} (hk : qw_On tw w K Y Q k) {pc : Nat} {ls : qw_L} {st : List Value} {σ : qw_M} {n : Int} (hd : qw_dec (qw_yb Y) pc (.sipush n)) (hF : qw_F tw w K Y Q k (.sipush n) pc ls st σ) : qw_Ev tw w K Y Q pc ls st σ := by
  have hd := qw_dec1 hd rfl
  intro p l e s m args below meth c g C0 H locs hP hS lsA hl
  obtain ⟨hx, hb, hret, hml, hown, hts, hlk, hI, hK, hE⟩ := id C0
  obtain ⟨hgood, hwf, hcok, htok, hkok⟩ := id hok
  cases n with
  | ofNat j =>
    dsimp only [qw_F] at hF
    split at hF <;> try exact False.elim hF
    rename_i he
    exact lv_sipush hx hb hd (qw_b16 j (qw_lt he)) (hk _ _ _ _ hF p l e s m args below meth c g C0 H locs hP hS lsA hl)
  | negSucc j => exact False.elim hF
theorem qw_step_lconst (hok : qw_ok tw w K) {k : Nat → qw_L → List Value → qw_M → Prop} (hk : qw_On tw w K Y Q k) {pc : Nat} {ls : qw_L} {st : List Value} {σ : qw_M} {n : Fin 2} (hd : qw_dec (qw_yb Y) pc (.lconst n)) (hF : qw_F tw w K Y Q k (.lconst n) pc ls st σ) : qw_Ev tw w K Y Q pc ls st σ := by
  have hd := qw_dec1 hd rfl
  intro p l e s m args below meth c g C0 H locs hP hS lsA hl
  obtain ⟨hx, hb, hret, hml, hown, hts, hlk, hI, hK, hE⟩ := id C0
  obtain ⟨hgood, hwf, hcok, htok, hkok⟩ := id hok
  exact lv_lconst hx hb hd rfl (hk _ _ _ _ hF p l e s m args below meth c g C0 H locs hP hS lsA hl)
theorem qw_step_aconst_null (hok : qw_ok tw w K) {k : Nat → qw_L → List Value → qw_M → Prop} (hk : qw_On tw w K Y Q k) {pc : Nat} {ls : qw_L} {st : List Value} {σ : qw_M} (hd : qw_dec (qw_yb Y) pc (.aconst_null)) (hF : qw_F tw w K Y Q k (.aconst_null) pc ls st σ) : qw_Ev tw w K Y Q pc ls st σ := by
  have hd := qw_dec1 hd rfl
  intro p l e s m args below meth c g C0 H locs hP hS lsA hl
  obtain ⟨hx, hb, hret, hml, hown, hts, hlk, hI, hK, hE⟩ := id C0
  obtain ⟨hgood, hwf, hcok, htok, hkok⟩ := id hok
  exact lv_null hx hb hd (hk _ _ _ _ hF p l e s m args below meth c g C0 H locs hP hS lsA hl)
theorem qw_step_ldc_w (hok : qw_ok tw w K) {k : Nat → qw_L → List Value → qw_M → Prop} (hk : qw_On tw w K Y Q k) {pc : Nat} {ls : qw_L} {st : List Value} {σ : qw_M} {j : Nat} (hd : qw_dec (qw_yb Y) pc (.ldc_w j)) (hF : qw_F tw w K Y Q k (.ldc_w j) pc ls st σ) : qw_Ev tw w K Y Q pc ls st σ := by
  have hd := qw_dec1 hd rfl
  intro p l e s m args below meth c g C0 H locs hP hS lsA hl
  obtain ⟨hx, hb, hret, hml, hown, hts, hlk, hI, hK, hE⟩ := id C0
  obtain ⟨hgood, hwf, hcok, htok, hkok⟩ := id hok
  dsimp only [qw_F] at hF
  cases hq : qw_lk (qw_ki K) j with
  | none => simp only [hq] at hF
  | some v =>
    simp only [hq] at hF
    exact lv_ldcw hx hb hown (hts _ (List.mem_cons_of_mem _ (hkok.2.2.1 j v hq))) hd (hk _ _ _ _ hF p l e s m args below meth c g C0 H locs hP hS lsA hl)
theorem qw_step_ldc2_w (hok : qw_ok tw w K) {k : Nat → qw_L → List Value → qw_M → Prop} (hk : qw_On tw w K Y Q k) {pc : Nat} {ls : qw_L} {st : List Value} {σ : qw_M} {j : Nat} (hd : qw_dec (qw_yb Y) pc (.ldc2_w j)) (hF : qw_F tw w K Y Q k (.ldc2_w j) pc ls st σ) : qw_Ev tw w K Y Q pc ls st σ := by
  have hd := qw_dec1 hd rfl
  intro p l e s m args below meth c g C0 H locs hP hS lsA hl
  obtain ⟨hx, hb, hret, hml, hown, hts, hlk, hI, hK, hE⟩ := id C0
  obtain ⟨hgood, hwf, hcok, htok, hkok⟩ := id hok
  dsimp only [qw_F] at hF
  cases hq : qw_lk (qw_kl K) j with
  | none => simp only [hq] at hF
  | some v =>
    simp only [hq] at hF
    exact lv_ldc2 hx hb hown (hts _ (List.mem_cons_of_mem _ (hkok.2.2.2.1 j v hq))) hd (hk _ _ _ _ hF p l e s m args below meth c g C0 H locs hP hS lsA hl)
theorem qw_step_ldc (hok : qw_ok tw w K) {k : Nat → qw_L → List Value → qw_M → Prop} (hk : qw_On tw w K Y Q k) {pc : Nat} {ls : qw_L} {st : List Value} {σ : qw_M} {j : Nat} (hd : qw_dec (qw_yb Y) pc (.ldc j)) (hF : qw_F tw w K Y Q k (.ldc j) pc ls st σ) : qw_Ev tw w K Y Q pc ls st σ := by
  have hd := qw_dec1 hd rfl
  intro p l e s m args below meth c g C0 H locs hP hS lsA hl
  obtain ⟨hx, hb, hret, hml, hown, hts, hlk, hI, hK, hE⟩ := id C0
  obtain ⟨hgood, hwf, hcok, htok, hkok⟩ := id hok
  dsimp only [qw_F] at hF
  cases hq : qw_lk (qw_ki K) j with
  | none =>
    simp only [hq] at hF
    cases hq2 : qw_lk (qw_ks K) j with
    | none => simp only [hq2] at hF
    | some i =>
      simp only [hq2] at hF
      split at hF <;> try exact False.elim hF
      rename_i he
      obtain ⟨tx, hs⟩ := hkok.2.2.2.2.2.2.1 j i hq2
      exact va_ldcS hx hb hown (hE.2.2.2.2.2 _ hs) hd (hk _ _ _ _ hF p l e s m args below meth c g C0 H locs hP hS lsA hl)
  | some v =>
    simp only [hq] at hF
    exact lv_ldc hx hb hown (hts _ (List.mem_cons_of_mem _ (hkok.2.2.1 j v hq))) hd (hk _ _ _ _ hF p l e s m args below meth c g C0 H locs hP hS lsA hl)
theorem qw_step_iload_n (hok : qw_ok tw w K) {k : Nat → qw_L → List Value → qw_M → Prop} (hk : qw_On tw w K Y Q k) {pc : Nat} {ls : qw_L} {st : List Value} {σ : qw_M} {j : Fin 4} (hd : qw_dec (qw_yb Y) pc (.iload_n j)) (hF : qw_F tw w K Y Q k (.iload_n j) pc ls st σ) : qw_Ev tw w K Y Q pc ls st σ := by
  have hd := qw_dec1 hd rfl
  intro p l e s m args below meth c g C0 H locs hP hS lsA hl
  obtain ⟨hx, hb, hret, hml, hown, hts, hlk, hI, hK, hE⟩ := id C0
  obtain ⟨hgood, hwf, hcok, htok, hkok⟩ := id hok
  dsimp only [qw_F] at hF
  split at hF <;> try exact False.elim hF
  rename_i x hq
  exact lv_iload_n hx hb hd rfl (qw_loc hl hq) (hk _ _ _ _ hF p l e s m args below meth c g C0 H locs hP hS lsA hl)
theorem qw_step_lload_n (hok : qw_ok tw w K) {k : Nat → qw_L → List Value → qw_M → Prop} (hk : qw_On tw w K Y Q k) {pc : Nat} {ls : qw_L} {st : List Value} {σ : qw_M} {j : Fin 4} (hd : qw_dec (qw_yb Y) pc (.lload_n j)) (hF : qw_F tw w K Y Q k (.lload_n j) pc ls st σ) : qw_Ev tw w K Y Q pc ls st σ := by
  have hd := qw_dec1 hd rfl
  intro p l e s m args below meth c g C0 H locs hP hS lsA hl
  obtain ⟨hx, hb, hret, hml, hown, hts, hlk, hI, hK, hE⟩ := id C0
  obtain ⟨hgood, hwf, hcok, htok, hkok⟩ := id hok
  dsimp only [qw_F] at hF
  split at hF <;> try exact False.elim hF
  rename_i x hq
  exact lv_lload_n hx hb hd rfl (qw_loc hl hq) (hk _ _ _ _ hF p l e s m args below meth c g C0 H locs hP hS lsA hl)
theorem qw_step_iload (hok : qw_ok tw w K) {k : Nat → qw_L → List Value → qw_M → Prop} (hk : qw_On tw w K Y Q k) {pc : Nat} {ls : qw_L} {st : List Value} {σ : qw_M} {j : Nat} (hd : qw_dec (qw_yb Y) pc (.iload j)) (hF : qw_F tw w K Y Q k (.iload j) pc ls st σ) : qw_Ev tw w K Y Q pc ls st σ := by
  have hd := qw_dec1 hd rfl
  intro p l e s m args below meth c g C0 H locs hP hS lsA hl
  obtain ⟨hx, hb, hret, hml, hown, hts, hlk, hI, hK, hE⟩ := id C0
  obtain ⟨hgood, hwf, hcok, htok, hkok⟩ := id hok
  dsimp only [qw_F] at hF
  split at hF <;> try exact False.elim hF
  rename_i x hq
  exact lv_iload hx hb hd (qw_loc hl hq) (hk _ _ _ _ hF p l e s m args below meth c g C0 H locs hP hS lsA hl)
theorem qw_step_lload (hok : qw_ok tw w K) {k : Nat → qw_L → List Value → qw_M → Prop} (hk : qw_On tw w K Y Q k) {pc : Nat} {ls : qw_L} {st : List Value} {σ : qw_M} {j : Nat} (hd : qw_dec (qw_yb Y) pc (.lload j)) (hF : qw_F tw w K Y Q k (.lload j) pc ls st σ) : qw_Ev tw w K Y Q pc ls st σ := by
  have hd := qw_dec1 hd rfl
  intro p l e s m args below meth c g C0 H locs hP hS lsA hl
  obtain ⟨hx, hb, hret, hml, hown, hts, hlk, hI, hK, hE⟩ := id C0
  obtain ⟨hgood, hwf, hcok, htok, hkok⟩ := id hok
  dsimp only [qw_F] at hF
  split at hF <;> try exact False.elim hF
  rename_i x hq
  exact lv_lload hx hb hd (qw_loc hl hq) (hk _ _ _ _ hF p l e s m args below meth c g C0 H locs hP hS lsA hl)
theorem qw_step_aload_n (hok : qw_ok tw w K) {k : Nat → qw_L → List Value → qw_M → Prop} (hk : qw_On tw w K Y Q k) {pc : Nat} {ls : qw_L} {st : List Value} {σ : qw_M} {j : Fin 4} (hd : qw_dec (qw_yb Y) pc (.aload_n j)) (hF : qw_F tw w K Y Q k (.aload_n j) pc ls st σ) : qw_Ev tw w K Y Q pc ls st σ := by
  have hd := qw_dec1 hd rfl
  intro p l e s m args below meth c g C0 H locs hP hS lsA hl
  obtain ⟨hx, hb, hret, hml, hown, hts, hlk, hI, hK, hE⟩ := id C0
  obtain ⟨hgood, hwf, hcok, htok, hkok⟩ := id hok
  dsimp only [qw_F] at hF
  split at hF <;> try exact False.elim hF
  · rename_i x hq
    exact lv_aload_n hx hb hd rfl (qw_loc hl hq) (hk _ _ _ _ hF p l e s m args below meth c g C0 H locs hP hS lsA hl)
  · rename_i hq
    exact lv_aload_nN hx hb hd rfl (qw_loc hl hq) (hk _ _ _ _ hF p l e s m args below meth c g C0 H locs hP hS lsA hl)
theorem qw_step_aload (hok : qw_ok tw w K) {k : Nat → qw_L → List Value → qw_M → Prop} (hk : qw_On tw w K Y Q k) {pc : Nat} {ls : qw_L} {st : List Value} {σ : qw_M} {j : Nat} (hd : qw_dec (qw_yb Y) pc (.aload j)) (hF : qw_F tw w K Y Q k (.aload j) pc ls st σ) : qw_Ev tw w K Y Q pc ls st σ := by
  have hd := qw_dec1 hd rfl
  intro p l e s m args below meth c g C0 H locs hP hS lsA hl
  obtain ⟨hx, hb, hret, hml, hown, hts, hlk, hI, hK, hE⟩ := id C0
  obtain ⟨hgood, hwf, hcok, htok, hkok⟩ := id hok
  dsimp only [qw_F] at hF
  split at hF <;> try exact False.elim hF
  · rename_i x hq
    exact lv_aload hx hb hd (qw_loc hl hq) (hk _ _ _ _ hF p l e s m args below meth c g C0 H locs hP hS lsA hl)
  · rename_i hq
    exact lv_aloadN hx hb hd (qw_loc hl hq) (hk _ _ _ _ hF p l e s m args below meth c g C0 H locs hP hS lsA hl)
theorem qw_step_istore_n (hok : qw_ok tw w K) {k : Nat → qw_L → List Value → qw_M → Prop} (hk : qw_On tw w K Y Q k) {pc : Nat} {ls : qw_L} {st : List Value} {σ : qw_M} {j : Fin 4} (hd : qw_dec (qw_yb Y) pc (.istore_n j)) (hF : qw_F tw w K Y Q k (.istore_n j) pc ls st σ) : qw_Ev tw w K Y Q pc ls st σ := by
  have hd := qw_dec1 hd rfl
  intro p l e s m args below meth c g C0 H locs hP hS lsA hl
  obtain ⟨hx, hb, hret, hml, hown, hts, hlk, hI, hK, hE⟩ := id C0
  obtain ⟨hgood, hwf, hcok, htok, hkok⟩ := id hok
  dsimp only [qw_F] at hF
  split at hF <;> try exact False.elim hF
  rename_i hj
  obtain ⟨x, r, rfl, h⟩ := qw_i1_inv hF
  exact lv_istore_n hx hb hd rfl hl (qw_lt hj) rfl (fun ls' h' => hk _ _ _ _ h p l e s m args below meth c g C0 H locs hP hS ls' (qw_has1 h'))
theorem qw_step_istore (hok : qw_ok tw w K) {k : Nat → qw_L → List Value → qw_M → Prop} (hk : qw_On tw w K Y Q k) {pc : Nat} {ls : qw_L} {st : List Value} {σ : qw_M} {j : Nat} (hd : qw_dec (qw_yb Y) pc (.istore j)) (hF : qw_F tw w K Y Q k (.istore j) pc ls st σ) : qw_Ev tw w K Y Q pc ls st σ := by
  have hd := qw_dec1 hd rfl
  intro p l e s m args below meth c g C0 H locs hP hS lsA hl
  obtain ⟨hx, hb, hret, hml, hown, hts, hlk, hI, hK, hE⟩ := id C0
  obtain ⟨hgood, hwf, hcok, htok, hkok⟩ := id hok
  dsimp only [qw_F] at hF
  split at hF <;> try exact False.elim hF
  rename_i hj
  obtain ⟨x, r, rfl, h⟩ := qw_i1_inv hF
  exact lv_istore hx hb hd hl (qw_lt hj) rfl (fun ls' h' => hk _ _ _ _ h p l e s m args below meth c g C0 H locs hP hS ls' (qw_has1 h'))
theorem qw_step_lstore_n (hok : qw_ok tw w K) {k : Nat → qw_L → List Value → qw_M → Prop} (hk : qw_On tw w K Y Q k) {pc : Nat} {ls : qw_L} {st : List Value} {σ : qw_M} {j : Fin 4} (hd : qw_dec (qw_yb Y) pc (.lstore_n j)) (hF : qw_F tw w K Y Q k (.lstore_n j) pc ls st σ) : qw_Ev tw w K Y Q pc ls st σ := by
  have hd := qw_dec1 hd rfl
  intro p l e s m args below meth c g C0 H locs hP hS lsA hl
  obtain ⟨hx, hb, hret, hml, hown, hts, hlk, hI, hK, hE⟩ := id C0
  obtain ⟨hgood, hwf, hcok, htok, hkok⟩ := id hok
  dsimp only [qw_F] at hF
  split at hF <;> try exact False.elim hF
  rename_i hj
  obtain ⟨x, r, rfl, h⟩ := qw_l1_inv hF
  exact lv_lstore_n hx hb hd rfl hl (qw_lt hj) rfl (fun ls' h' => hk _ _ _ _ h p l e s m args below meth c g C0 H locs hP hS ls' (qw_has2 h'))
theorem qw_step_lstore (hok : qw_ok tw w K) {k : Nat → qw_L → List Value → qw_M → Prop} (hk : qw_On tw w K Y Q k) {pc : Nat} {ls : qw_L} {st : List Value} {σ : qw_M} {j : Nat} (hd : qw_dec (qw_yb Y) pc (.lstore j)) (hF : qw_F tw w K Y Q k (.lstore j) pc ls st σ) : qw_Ev tw w K Y Q pc ls st σ := by
  have hd := qw_dec1 hd rfl
  intro p l e s m args below meth c g C0 H locs hP hS lsA hl
  obtain ⟨hx, hb, hret, hml, hown, hts, hlk, hI, hK, hE⟩ := id C0
  obtain ⟨hgood, hwf, hcok, htok, hkok⟩ := id hok
  dsimp only [qw_F] at hF
  split at hF <;> try exact False.elim hF
  rename_i hj
  obtain ⟨x, r, rfl, h⟩ := qw_l1_inv hF
  exact lv_lstore hx hb hd hl (qw_lt hj) rfl (fun ls' h' => hk _ _ _ _ h p l e s m args below meth c g C0 H locs hP hS ls' (qw_has2 h'))
theorem qw_step_astore_n (hok : qw_ok tw w K) {k : Nat → qw_L → List Value → qw_M → Prop} (hk : qw_On tw w K Y Q k) {pc : Nat} {ls : qw_L} {st : List Value} {σ : qw_M} {j : Fin 4} (hd : qw_dec (qw_yb Y) pc (.astore_n j)) (hF : qw_F tw w K Y Q k (.astore_n j) pc ls st σ) : qw_Ev tw w K Y Q pc ls st σ := by
  have hd := qw_dec1 hd rfl
  intro p l e s m args below meth c g C0 H locs hP hS lsA hl
  obtain ⟨hx, hb, hret, hml, hown, hts, hlk, hI, hK, hE⟩ := id C0
  obtain ⟨hgood, hwf, hcok, htok, hkok⟩ := id hok
  dsimp only [qw_F] at hF
  split at hF <;> try exact False.elim hF
  · rename_i x r hj
    exact lv_astore_n hx hb hd rfl hl (qw_lt hj) rfl (fun ls' h' => hk _ _ _ _ hF p l e s m args below meth c g C0 H locs hP hS ls' (qw_has1 (v := .ref x) h'))
  · rename_i r hj
    exact lv_astore_nN hx hb hd rfl hl (qw_lt hj) rfl (fun ls' h' => hk _ _ _ _ hF p l e s m args below meth c g C0 H locs hP hS ls' (qw_has1 (v := .null) h'))
theorem qw_step_astore (hok : qw_ok tw w K) {k : Nat → qw_L → List Value → qw_M → Prop} (hk : qw_On tw w K Y Q k) {pc : Nat} {ls : qw_L} {st : List Value} {σ : qw_M} {j : Nat} (hd : qw_dec (qw_yb Y) pc (.astore j)) (hF : qw_F tw w K Y Q k (.astore j) pc ls st σ) : qw_Ev tw w K Y Q pc ls st σ := by
  have hd := qw_dec1 hd rfl
  intro p l e s m args below meth c g C0 H locs hP hS lsA hl
  obtain ⟨hx, hb, hret, hml, hown, hts, hlk, hI, hK, hE⟩ := id C0
  obtain ⟨hgood, hwf, hcok, htok, hkok⟩ := id hok
  dsimp only [qw_F] at hF
  split at hF <;> try exact False.elim hF
  · rename_i x r hj
    exact lv_astore hx hb hd hl (qw_lt hj) rfl (fun ls' h' => hk _ _ _ _ hF p l e s m args below meth c g C0 H locs hP hS ls' (qw_has1 (v := .ref x) h'))
  · rename_i r hj
    exact lv_astoreN hx hb hd hl (qw_lt hj) rfl (fun ls' h' => hk _ _ _ _ hF p l e s m args below meth c g C0 H locs hP hS ls' (qw_has1 (v := .null) h'))
theorem qw_step_iinc (hok : qw_ok tw w K) {k : Nat → qw_L → List Value → qw_M → Prop} (hk : qw_On tw w K Y Q k) {pc : Nat} {ls : qw_L} {st : List Value} {σ : qw_M} {j : Nat} {n : Int} (hd : qw_dec (qw_yb Y) pc (.iinc j n)) (hF : qw_F tw w K Y Q k (.iinc j n) pc ls st σ) : qw_Ev tw w K Y Q pc ls st σ := by
  have hd := qw_dec1 hd rfl
  intro p l e s m args below meth c g C0 H locs hP hS lsA hl
  obtain ⟨hx, hb, hret, hml, hown, hts, hlk, hI, hK, hE⟩ := id C0
  obtain ⟨hgood, hwf, hcok, htok, hkok⟩ := id hok
  dsimp only [qw_F] at hF
  split at hF <;> try exact False.elim hF
  rename_i x hj hq
  obtain ⟨i0, hi0⟩ := List.getElem?_of_mem (List.mem_map.mpr ⟨(j, Value.int x), qw_lk_mem hq, rfl⟩ : (j, Value.int x) ∈ qw_lm g.2.1 ls)
  cases n with
  | ofNat i => exact lv_iinc hx hb hd hl hi0 (by rw [qw_ofN]) (qw_lt hj) rfl (fun ls' h' => hk _ _ _ _ hF p l e s m args below meth c g C0 H locs hP hS ls' (qw_has1 (v := .int _) h'))
  | negSucc i => exact lv_iinc hx hb hd hl hi0 rfl (qw_lt hj) rfl (fun ls' h' => hk _ _ _ _ hF p l e s m args below meth c g C0 H locs hP hS ls' (qw_has1 (v := .int _) h'))
theorem qw_step_iadd (hok : qw_ok tw w K) {k : Nat → qw_L → List Value → qw_M → Prop} (hk : qw_On tw w K Y Q k) {pc : Nat} {ls : qw_L} {st : List Value} {σ : qw_M} (hd : qw_dec (qw_yb Y) pc (.iadd)) (hF : qw_F tw w K Y Q k (.iadd) pc ls st σ) : qw_Ev tw w K Y Q pc ls st σ := by
  have hd := qw_dec1 hd rfl
  intro p l e s m args below meth c g C0 H locs hP hS lsA hl
  obtain ⟨hx, hb, hret, hml, hown, hts, hlk, hI, hK, hE⟩ := id C0
  obtain ⟨hgood, hwf, hcok, htok, hkok⟩ := id hok
  obtain ⟨x, y, r, rfl, h⟩ := qw_i2_inv hF
  exact lv_iadd hx hb hd (hk _ _ _ _ h p l e s m args below meth c g C0 H locs hP hS lsA hl)
theorem qw_step_isub (hok : qw_ok tw w K) {k : Nat → qw_L → List Value → qw_M → Prop} (hk : qw_On tw w K Y Q k) {pc : Nat} {ls : qw_L} {st : List Value} {σ : qw_M} (hd : qw_dec (qw_yb Y) pc (.isub)) (hF : qw_F tw w K Y Q k (.isub) pc ls st σ) : qw_Ev tw w K Y Q pc ls st σ := by
  have hd := qw_dec1 hd rfl
  intro p l e s m args below meth c g C0 H locs hP hS lsA hl
  obtain ⟨hx, hb, hret, hml, hown, hts, hlk, hI, hK, hE⟩ := id C0
  obtain ⟨hgood, hwf, hcok, htok, hkok⟩ := id hok
  obtain ⟨x, y, r, rfl, h⟩ := qw_i2_inv hF
  exact lv_isub hx hb hd (hk _ _ _ _ h p l e s m args below meth c g C0 H locs hP hS lsA hl)
theorem qw_step_imul (hok : qw_ok tw w K) {k : Nat → qw_L → List Value → qw_M → Prop} (hk : qw_On tw w K Y Q k) {pc : Nat} {ls : qw_L} {st : List Value} {σ : qw_M} (hd : qw_dec (qw_yb Y) pc (.imul)) (hF : qw_F tw w K Y Q k (.imul) pc ls st σ) : qw_Ev tw w K Y Q pc ls st σ := by
  have hd := qw_dec1 hd rfl
  intro p l e s m args below meth c g C0 H locs hP hS lsA hl
  obtain ⟨hx, hb, hret, hml, hown, hts, hlk, hI, hK, hE⟩ := id C0
  obtain ⟨hgood, hwf, hcok, htok, hkok⟩ := id hok
  obtain ⟨x, y, r, rfl, h⟩ := qw_i2_inv hF
  exact lv_imul hx hb hd (hk _ _ _ _ h p l e s m args below meth c g C0 H locs hP hS lsA hl)
theorem qw_step_iand (hok : qw_ok tw w K) {k : Nat → qw_L → List Value → qw_M → Prop} (hk : qw_On tw w K Y Q k) {pc : Nat} {ls : qw_L} {st : List Value} {σ : qw_M} (hd : qw_dec (qw_yb Y) pc (.iand)) (hF : qw_F tw w K Y Q k (.iand) pc ls st σ) : qw_Ev tw w K Y Q pc ls st σ := by
  have hd := qw_dec1 hd rfl
  intro p l e s m args below meth c g C0 H locs hP hS lsA hl
  obtain ⟨hx, hb, hret, hml, hown, hts, hlk, hI, hK, hE⟩ := id C0
  obtain ⟨hgood, hwf, hcok, htok, hkok⟩ := id hok
  obtain ⟨x, y, r, rfl, h⟩ := qw_i2_inv hF
  exact lv_iand hx hb hd (hk _ _ _ _ h p l e s m args below meth c g C0 H locs hP hS lsA hl)
theorem qw_step_ior (hok : qw_ok tw w K) {k : Nat → qw_L → List Value → qw_M → Prop} (hk : qw_On tw w K Y Q k) {pc : Nat} {ls : qw_L} {st : List Value} {σ : qw_M} (hd : qw_dec (qw_yb Y) pc (.ior)) (hF : qw_F tw w K Y Q k (.ior) pc ls st σ) : qw_Ev tw w K Y Q pc ls st σ := by
  have hd := qw_dec1 hd rfl
  intro p l e s m args below meth c g C0 H locs hP hS lsA hl
  obtain ⟨hx, hb, hret, hml, hown, hts, hlk, hI, hK, hE⟩ := id C0
  obtain ⟨hgood, hwf, hcok, htok, hkok⟩ := id hok
  obtain ⟨x, y, r, rfl, h⟩ := qw_i2_inv hF
  exact lv_ior hx hb hd (hk _ _ _ _ h p l e s m args below meth c g C0 H locs hP hS lsA hl)
theorem qw_step_ixor (hok : qw_ok tw w K) {k : Nat → qw_L → List Value → qw_M → Prop} (hk : qw_On tw w K Y Q k) {pc : Nat} {ls : qw_L} {st : List Value} {σ : qw_M} (hd : qw_dec (qw_yb Y) pc (.ixor)) (hF : qw_F tw w K Y Q k (.ixor) pc ls st σ) : qw_Ev tw w K Y Q pc ls st σ := by
  have hd := qw_dec1 hd rfl
  intro p l e s m args below meth c g C0 H locs hP hS lsA hl
  obtain ⟨hx, hb, hret, hml, hown, hts, hlk, hI, hK, hE⟩ := id C0
  obtain ⟨hgood, hwf, hcok, htok, hkok⟩ := id hok
  obtain ⟨x, y, r, rfl, h⟩ := qw_i2_inv hF
  exact lv_ixor hx hb hd (hk _ _ _ _ h p l e s m args below meth c g C0 H locs hP hS lsA hl)
theorem qw_step_ishl (hok : qw_ok tw w K) {k : Nat → qw_L → List Value → qw_M → Prop} (hk : qw_On tw w K Y Q k) {pc : Nat} {ls : qw_L} {st : List Value} {σ : qw_M} (hd : qw_dec (qw_yb Y) pc (.ishl)) (hF : qw_F tw w K Y Q k (.ishl) pc ls st σ) : qw_Ev tw w K Y Q pc ls st σ := by
  have hd := qw_dec1 hd rfl
  intro p l e s m args below meth c g C0 H locs hP hS lsA hl
  obtain ⟨hx, hb, hret, hml, hown, hts, hlk, hI, hK, hE⟩ := id C0
  obtain ⟨hgood, hwf, hcok, htok, hkok⟩ := id hok
  obtain ⟨x, y, r, rfl, h⟩ := qw_i2_inv hF
  exact lv_ishl hx hb hd (hk _ _ _ _ h p l e s m args below meth c g C0 H locs hP hS lsA hl)
theorem qw_step_ishr (hok : qw_ok tw w K) {k : Nat → qw_L → List Value → qw_M → Prop} (hk : qw_On tw w K Y Q k) {pc : Nat} {ls : qw_L} {st : List Value} {σ : qw_M} (hd : qw_dec (qw_yb Y) pc (.ishr)) (hF : qw_F tw w K Y Q k (.ishr) pc ls st σ) : qw_Ev tw w K Y Q pc ls st σ := by
  have hd := qw_dec1 hd rfl
  intro p l e s m args below meth c g C0 H locs hP hS lsA hl
  obtain ⟨hx, hb, hret, hml, hown, hts, hlk, hI, hK, hE⟩ := id C0
  obtain ⟨hgood, hwf, hcok, htok, hkok⟩ := id hok
  obtain ⟨x, y, r, rfl, h⟩ := qw_i2_inv hF
  exact lv_ishr hx hb hd (hk _ _ _ _ h p l e s m args below meth c g C0 H locs hP hS lsA hl)
theorem qw_step_iushr (hok : qw_ok tw w K) {k : Nat → qw_L → List Value → qw_M → Prop} (hk : qw_On tw w K Y Q k) {pc : Nat} {ls : qw_L} {st : List Value} {σ : qw_M} (hd : qw_dec (qw_yb Y) pc (.iushr)) (hF : qw_F tw w K Y Q k (.iushr) pc ls st σ) : qw_Ev tw w K Y Q pc ls st σ := by
  have hd := qw_dec1 hd rfl
  intro p l e s m args below meth c g C0 H locs hP hS lsA hl
  obtain ⟨hx, hb, hret, hml, hown, hts, hlk, hI, hK, hE⟩ := id C0
  obtain ⟨hgood, hwf, hcok, htok, hkok⟩ := id hok
  obtain ⟨x, y, r, rfl, h⟩ := qw_i2_inv hF
  exact lv_iushr hx hb hd rfl (hk _ _ _ _ h p l e s m args below meth c g C0 H locs hP hS lsA hl)
theorem qw_step_idiv (hok : qw_ok tw w K) {k : Nat → qw_L → List Value → qw_M → Prop} (hk : qw_On tw w K Y Q k) {pc : Nat} {ls : qw_L} {st : List Value} {σ : qw_M} (hd : qw_dec (qw_yb Y) pc (.idiv)) (hF : qw_F tw w K Y Q k (.idiv) pc ls st σ) : qw_Ev tw w K Y Q pc ls st σ := by
  have hd := qw_dec1 hd rfl
  intro p l e s m args below meth c g C0 H locs hP hS lsA hl
  obtain ⟨hx, hb, hret, hml, hown, hts, hlk, hI, hK, hE⟩ := id C0
  obtain ⟨hgood, hwf, hcok, htok, hkok⟩ := id hok
  obtain ⟨x, y, r, rfl, hne, h⟩ := qw_i2_inv hF
  exact lv_idiv hx hb hd hne (hk _ _ _ _ h p l e s m args below meth c g C0 H locs hP hS lsA hl)
theorem qw_step_irem (hok : qw_ok tw w K) {k : Nat → qw_L → List Value → qw_M → Prop} (hk : qw_On tw w K Y Q k) {pc : Nat} {ls : qw_L} {st : List Value} {σ : qw_M} (hd : qw_dec (qw_yb Y) pc (.irem)) (hF : qw_F tw w K Y Q k (.irem) pc ls st σ) : qw_Ev tw w K Y Q pc ls st σ := by
  have hd := qw_dec1 hd rfl
  intro p l e s m args below meth c g C0 H locs hP hS lsA hl
  obtain ⟨hx, hb, hret, hml, hown, hts, hlk, hI, hK, hE⟩ := id C0
  obtain ⟨hgood, hwf, hcok, htok, hkok⟩ := id hok
  obtain ⟨x, y, r, rfl, hne, h⟩ := qw_i2_inv hF
  exact lv_irem hx hb hd hne (hk _ _ _ _ h p l e s m args below meth c g C0 H locs hP hS lsA hl)
theorem qw_step_ladd (hok : qw_ok tw w K) {k : Nat → qw_L → List Value → qw_M → Prop} (hk : qw_On tw w K Y Q k) {pc : Nat} {ls : qw_L} {st : List Value} {σ : qw_M} (hd : qw_dec (qw_yb Y) pc (.ladd)) (hF : qw_F tw w K Y Q k (.ladd) pc ls st σ) : qw_Ev tw w K Y Q pc ls st σ := by
  have hd := qw_dec1 hd rfl
  intro p l e s m args below meth c g C0 H locs hP hS lsA hl
  obtain ⟨hx, hb, hret, hml, hown, hts, hlk, hI, hK, hE⟩ := id C0
  obtain ⟨hgood, hwf, hcok, htok, hkok⟩ := id hok
  obtain ⟨x, y, r, rfl, h⟩ := qw_l2_inv hF
  exact lv_ladd hx hb hd (hk _ _ _ _ h p l e s m args below meth c g C0 H locs hP hS lsA hl)
theorem qw_step_lsub (hok : qw_ok tw w K) {k : Nat → qw_L → List Value → qw_M → Prop} (hk : qw_On tw w K Y Q k) {pc : Nat} {ls : qw_L} {st : List Value} {σ : qw_M} (hd : qw_dec (qw_yb Y) pc (.lsub)) (hF : qw_F tw w K Y Q k (.lsub) pc ls st σ) : qw_Ev tw w K Y Q pc ls st σ := by
  have hd := qw_dec1 hd rfl
  intro p l e s m args below meth c g C0 H locs hP hS lsA hl
  obtain ⟨hx, hb, hret, hml, hown, hts, hlk, hI, hK, hE⟩ := id C0
  obtain ⟨hgood, hwf, hcok, htok, hkok⟩ := id hok
  obtain ⟨x, y, r, rfl, h⟩ := qw_l2_inv hF
  exact lv_lsub hx hb hd (hk _ _ _ _ h p l e s m args below meth c g C0 H locs hP hS lsA hl)
theorem qw_step_lmul (hok : qw_ok tw w K) {k : Nat → qw_L → List Value → qw_M → Prop} (hk : qw_On tw w K Y Q k) {pc : Nat} {ls : qw_L} {st : List Value} {σ : qw_M} (hd : qw_dec (qw_yb Y) pc (.lmul)) (hF : qw_F tw w K Y Q k (.lmul) pc ls st σ) : qw_Ev tw w K Y Q pc ls st σ := by
  have hd := qw_dec1 hd rfl
  intro p l e s m args below meth c g C0 H locs hP hS lsA hl
  obtain ⟨hx, hb, hret, hml, hown, hts, hlk, hI, hK, hE⟩ := id C0
  obtain ⟨hgood, hwf, hcok, htok, hkok⟩ := id hok
  obtain ⟨x, y, r, rfl, h⟩ := qw_l2_inv hF
  exact lv_lmul hx hb hd (hk _ _ _ _ h p l e s m args below meth c g C0 H locs hP hS lsA hl)
theorem qw_step_lcmp (hok : qw_ok tw w K) {k : Nat → qw_L → List Value → qw_M → Prop} (hk : qw_On tw w K Y Q k) {pc : Nat} {ls : qw_L} {st : List Value} {σ : qw_M} (hd : qw_dec (qw_yb Y) pc (.lcmp)) (hF : qw_F tw w K Y Q k (.lcmp) pc ls st σ) : qw_Ev tw w K Y Q pc ls st σ := by
  have hd := qw_dec1 hd rfl
  intro p l e s m args below meth c g C0 H locs hP hS lsA hl
  obtain ⟨hx, hb, hret, hml, hown, hts, hlk, hI, hK, hE⟩ := id C0
  obtain ⟨hgood, hwf, hcok, htok, hkok⟩ := id hok
  obtain ⟨x, y, r, rfl, h⟩ := qw_l2_inv hF
  exact W.lcmp hx hb hd (hk _ _ _ _ h p l e s m args below meth c g C0 H locs hP hS lsA hl)
theorem qw_step_ldiv (hok : qw_ok tw w K) {k : Nat → qw_L → List Value → qw_M → Prop} (hk : qw_On tw w K Y Q k) {pc : Nat} {ls : qw_L} {st : List Value} {σ : qw_M} (hd : qw_dec (qw_yb Y) pc (.ldiv)) (hF : qw_F tw w K Y Q k (.ldiv) pc ls st σ) : qw_Ev tw w K Y Q pc ls st σ := by
  have hd := qw_dec1 hd rfl
  intro p l e s m args below meth c g C0 H locs hP hS lsA hl
  obtain ⟨hx, hb, hret, hml, hown, hts, hlk, hI, hK, hE⟩ := id C0
  obtain ⟨hgood, hwf, hcok, htok, hkok⟩ := id hok
  obtain ⟨x, y, r, rfl, hne, h⟩ := qw_l2_inv hF
  exact lv_ldiv hx hb hd hne (hk _ _ _ _ h p l e s m args below meth c g C0 H locs hP hS lsA hl)
theorem qw_step_lrem (hok : qw_ok tw w K) {k : Nat → qw_L → List Value → qw_M → Prop} (hk : qw_On tw w K Y Q k) {pc : Nat} {ls : qw_L} {st : List Value} {σ : qw_M} (hd : qw_dec (qw_yb Y) pc (.lrem)) (hF : qw_F tw w K Y Q k (.lrem) pc ls st σ) : qw_Ev tw w K Y Q pc ls st σ := by
  have hd := qw_dec1 hd rfl
  intro p l e s m args below meth c g C0 H locs hP hS lsA hl
  obtain ⟨hx, hb, hret, hml, hown, hts, hlk, hI, hK, hE⟩ := id C0
  obtain ⟨hgood, hwf, hcok, htok, hkok⟩ := id hok
  obtain ⟨x, y, r, rfl, hne, h⟩ := qw_l2_inv hF
  exact lv_lrem hx hb hd hne (hk _ _ _ _ h p l e s m args below meth c g C0 H locs hP hS lsA hl)
theorem qw_step_lshl (hok : qw_ok tw w K) {k : Nat → qw_L → List Value → qw_M → Prop} (hk : qw_On tw w K Y Q k) {pc : Nat} {ls : qw_L} {st : List Value} {σ : qw_M} (hd : qw_dec (qw_yb Y) pc (.lshl)) (hF : qw_F tw w K Y Q k (.lshl) pc ls st σ) : qw_Ev tw w K Y Q pc ls st σ := by
  have hd := qw_dec1 hd rfl
  intro p l e s m args below meth c g C0 H locs hP hS lsA hl
  obtain ⟨hx, hb, hret, hml, hown, hts, hlk, hI, hK, hE⟩ := id C0
  obtain ⟨hgood, hwf, hcok, htok, hkok⟩ := id hok
  dsimp only [qw_F] at hF
  split at hF <;> try exact False.elim hF
  exact lv_lshl hx hb hd rfl (hk _ _ _ _ hF p l e s m args below meth c g C0 H locs hP hS lsA hl)
theorem qw_step_i2l (hok : qw_ok tw w K) {k : Nat → qw_L → List Value → qw_M → Prop} (hk : qw_On tw w K Y Q k) {pc : Nat} {ls : qw_L} {st : List Value} {σ : qw_M} (hd : qw_dec (qw_yb Y) pc (.i2l)) (hF : qw_F tw w K Y Q k (.i2l) pc ls st σ) : qw_Ev tw w K Y Q pc ls st σ := by
  have hd := qw_dec1 hd rfl
  intro p l e s m args below meth c g C0 H locs hP hS lsA hl
  obtain ⟨hx, hb, hret, hml, hown, hts, hlk, hI, hK, hE⟩ := id C0
  obtain ⟨hgood, hwf, hcok, htok, hkok⟩ := id hok
  obtain ⟨x, r, rfl, h⟩ := qw_i1_inv hF
  exact lv_i2l hx hb hd rfl (hk _ _ _ _ h p l e s m args below meth c g C0 H locs hP hS lsA hl)
theorem qw_step_i2b (hok : qw_ok tw w K) {k : Nat → qw_L → List Value → qw_M → Prop} (hk : qw_On tw w K Y Q k) {pc : Nat} {ls : qw_L} {st : List Value} {σ : qw_M} (hd : qw_dec (qw_yb Y) pc (.i2b)) (hF : qw_F tw w K Y Q k (.i2b) pc ls st σ) : qw_Ev tw w K Y Q pc ls st σ := by
  have hd := qw_dec1 hd rfl
  intro p l e s m args below meth c g C0 H locs hP hS lsA hl
  obtain ⟨hx, hb, hret, hml, hown, hts, hlk, hI, hK, hE⟩ := id C0
  obtain ⟨hgood, hwf, hcok, htok, hkok⟩ := id hok
  obtain ⟨x, r, rfl, h⟩ := qw_i1_inv hF
  exact lv_i2b hx hb hd rfl (hk _ _ _ _ h p l e s m args below meth c g C0 H locs hP hS lsA hl)
theorem qw_step_i2s (hok : qw_ok tw w K) {k : Nat → qw_L → List Value → qw_M → Prop} (hk : qw_On tw w K Y Q k) {pc : Nat} {ls : qw_L} {st : List Value} {σ : qw_M} (hd : qw_dec (qw_yb Y) pc (.i2s)) (hF : qw_F tw w K Y Q k (.i2s) pc ls st σ) : qw_Ev tw w K Y Q pc ls st σ := by
  have hd := qw_dec1 hd rfl
  intro p l e s m args below meth c g C0 H locs hP hS lsA hl
  obtain ⟨hx, hb, hret, hml, hown, hts, hlk, hI, hK, hE⟩ := id C0
  obtain ⟨hgood, hwf, hcok, htok, hkok⟩ := id hok
  obtain ⟨x, r, rfl, h⟩ := qw_i1_inv hF
  exact lv_i2s hx hb hd rfl (hk _ _ _ _ h p l e s m args below meth c g C0 H locs hP hS lsA hl)
theorem qw_step_i2c (hok : qw_ok tw w K) {k : Nat → qw_L → List Value → qw_M → Prop} (hk : qw_On tw w K Y Q k) {pc : Nat} {ls : qw_L} {st : List Value} {σ : qw_M} (hd : qw_dec (qw_yb Y) pc (.i2c)) (hF : qw_F tw w K Y Q k (.i2c) pc ls st σ) : qw_Ev tw w K Y Q pc ls st σ := by
  have hd := qw_dec1 hd rfl
  intro p l e s m args below meth c g C0 H locs hP hS lsA hl
  obtain ⟨hx, hb, hret, hml, hown, hts, hlk, hI, hK, hE⟩ := id C0
  obtain ⟨hgood, hwf, hcok, htok, hkok⟩ := id hok
  obtain ⟨x, r, rfl, h⟩ := qw_i1_inv hF
  exact lv_i2c hx hb hd rfl (hk _ _ _ _ h p l e s m args below meth c g C0 H locs hP hS lsA hl)
theorem qw_step_dup (hok : qw_ok tw w K) {k : Nat → qw_L → List Value → qw_M → Prop} (hk : qw_On tw w K Y Q k) {pc : Nat} {ls : qw_L} {st : List Value} {σ : qw_M} (hd : qw_dec (qw_yb Y) pc (.dup)) (hF : qw_F tw w K Y Q k (.dup) pc ls st σ) : qw_Ev tw w K Y Q pc ls st σ := by
  have hd := qw_dec1 hd rfl
  intro p l e s m args below meth c g C0 H locs hP hS lsA hl
  obtain ⟨hx, hb, hret, hml, hown, hts, hlk, hI, hK, hE⟩ := id C0
  obtain ⟨hgood, hwf, hcok, htok, hkok⟩ := id hok
  dsimp only [qw_F] at hF
  split at hF <;> try exact False.elim hF
  all_goals exact lv_dup hx hb hd rfl (hk _ _ _ _ hF p l e s m args below meth c g C0 H locs hP hS lsA hl)
theorem qw_step_pop (hok : qw_ok tw w K) {k : Nat → qw_L → List Value → qw_M → Prop} (hk : qw_On tw w K Y Q k) {pc : Nat} {ls : qw_L} {st : List Value} {σ : qw_M} (hd : qw_dec (qw_yb Y) pc (.pop)) (hF : qw_F tw w K Y Q k (.pop) pc ls st σ) : qw_Ev tw w K Y Q pc ls st σ := by
  have hd := qw_dec1 hd rfl
  intro p l e s m args below meth c g C0 H locs hP hS lsA hl
  obtain ⟨hx, hb, hret, hml, hown, hts, hlk, hI, hK, hE⟩ := id C0
  obtain ⟨hgood, hwf, hcok, htok, hkok⟩ := id hok
  dsimp only [qw_F] at hF
  split at hF <;> try exact False.elim hF
  all_goals exact lv_pop hx hb hd rfl (hk _ _ _ _ hF p l e s m args below meth c g C0 H locs hP hS lsA hl)
theorem qw_step_dup2 (hok : qw_ok tw w K) {k : Nat → qw_L → List Value → qw_M → Prop} (hk : qw_On tw w K Y Q k) {pc : Nat} {ls : qw_L} {st : List Value} {σ : qw_M} (hd : qw_dec (qw_yb Y) pc (.dup2)) (hF : qw_F tw w K Y Q k (.dup2) pc ls st σ) : qw_Ev tw w K Y Q pc ls st σ := by
  have hd := qw_dec1 hd rfl
  intro p l e s m args below meth c g C0 H locs hP hS lsA hl
  obtain ⟨hx, hb, hret, hml, hown, hts, hlk, hI, hK, hE⟩ := id C0
  obtain ⟨hgood, hwf, hcok, htok, hkok⟩ := id hok
  dsimp only [qw_F] at hF
  split at hF <;> try exact False.elim hF
  all_goals exact lv_dup2_11 hx hb hd rfl rfl (hk _ _ _ _ hF p l e s m args below meth c g C0 H locs hP hS lsA hl)
theorem qw_step_goto (hok : qw_ok tw w K) {k : Nat → qw_L → List Value → qw_M → Prop} (hk : qw_On tw w K Y Q k) {pc : Nat} {ls : qw_L} {st : List Value} {σ : qw_M} {off : Int} (hd : qw_dec (qw_yb Y) pc (.goto off)) (hF : qw_F tw w K Y Q k (.goto off) pc ls st σ) : qw_Ev tw w K Y Q pc ls st σ := by
  have hd := qw_dec1 hd rfl
  intro p l e s m args below meth c g C0 H locs hP hS lsA hl
  obtain ⟨hx, hb, hret, hml, hown, hts, hlk, hI, hK, hE⟩ := id C0
  obtain ⟨hgood, hwf, hcok, htok, hkok⟩ := id hok
  obtain ⟨t, ht, h⟩ := qw_tg_inv hF
  exact lv_goto hx hb hd ht (hk _ _ _ _ h p l e s m args below meth c g C0 H locs hP hS lsA hl)
theorem qw_step_ifCond (hok : qw_ok tw w K) {k : Nat → qw_L → List Value → qw_M → Prop} (hk : qw_On tw w K Y Q k) {pc : Nat} {ls : qw_L} {st : List Value} {σ : qw_M} {cd : ClassFile.Cond} {off : Int} (hd : qw_dec (qw_yb Y) pc (.ifCond cd off)) (hF : qw_F tw w K Y Q k (.ifCond cd off) pc ls st σ) : qw_Ev tw w K Y Q pc ls st σ := by
  have hd := qw_dec1 hd rfl
  intro p l e s m args below meth c g C0 H locs hP hS lsA hl
  obtain ⟨hx, hb, hret, hml, hown, hts, hlk, hI, hK, hE⟩ := id C0
  obtain ⟨hgood, hwf, hcok, htok, hkok⟩ := id hok
  obtain ⟨t, ht, hF⟩ := qw_tg_inv hF
  obtain ⟨x, r, rfl, h⟩ := qw_i1_inv hF
  cases cd
  case eq =>
    obtain ⟨h1, h2⟩ := qw_Ev.br h (fun z => hk _ _ _ _ z p l e s m args below meth c g C0 H locs hP hS lsA hl) (fun z => hk _ _ _ _ z p l e s m args below meth c g C0 H locs hP hS lsA hl)
    exact lv_if_eq hx hb hd ht h1 h2
  case ne =>
    obtain ⟨h1, h2⟩ := qw_Ev.nb h (fun z => hk _ _ _ _ z p l e s m args below meth c g C0 H locs hP hS lsA hl) (fun z => hk _ _ _ _ z p l e s m args below meth c g C0 H locs hP hS lsA hl)
    exact lv_if_ne hx hb hd ht h1 h2
  case lt =>
    obtain ⟨h1, h2⟩ := qw_Ev.br h (fun z => hk _ _ _ _ z p l e s m args below meth c g C0 H locs hP hS lsA hl) (fun z => hk _ _ _ _ z p l e s m args below meth c g C0 H locs hP hS lsA hl)
    exact lv_if_lt hx hb hd ht h1 h2
  case ge =>
    obtain ⟨h1, h2⟩ := qw_Ev.br h (fun z => hk _ _ _ _ z p l e s m args below meth c g C0 H locs hP hS lsA hl) (fun z => hk _ _ _ _ z p l e s m args below meth c g C0 H locs hP hS lsA hl)
    exact lv_if_ge hx hb hd ht h1 h2
  case gt =>
    obtain ⟨h1, h2⟩ := qw_Ev.br h (fun z => hk _ _ _ _ z p l e s m args below meth c g C0 H locs hP hS lsA hl) (fun z => hk _ _ _ _ z p l e s m args below meth c g C0 H locs hP hS lsA hl)
    exact lv_if_gt hx hb hd ht h1 h2
  case le =>
    obtain ⟨h1, h2⟩ := qw_Ev.br h (fun z => hk _ _ _ _ z p l e s m args below meth c g C0 H locs hP hS lsA hl) (fun z => hk _ _ _ _ z p l e s m args below meth c g C0 H locs hP hS lsA hl)
    exact lv_if_le hx hb hd ht h1 h2
theorem qw_step_if_icmp (hok : qw_ok tw w K) {k : Nat → qw_L → List Value → qw_M → Prop} (hk : qw_On tw w K Y Q k) {pc : Nat} {ls : qw_L} {st : List Value} {σ : qw_M} {cd : ClassFile.Cond} {off : Int} (hd : qw_dec (qw_yb Y) pc (.if_icmp cd off)) (hF : qw_F tw w K Y Q k (.if_icmp cd off) pc ls st σ) : qw_Ev tw w K Y Q pc ls st σ := by
  have hd := qw_dec1 hd rfl
  intro p l e s m args below meth c g C0 H locs hP hS lsA hl
  obtain ⟨hx, hb, hret, hml, hown, hts, hlk, hI, hK, hE⟩ := id C0
  obtain ⟨hgood, hwf, hcok, htok, hkok⟩ := id hok
  obtain ⟨t, ht, hF⟩ := qw_tg_inv hF
  obtain ⟨x, y, r, rfl, h⟩ := qw_i2_inv hF
  cases cd
  case eq =>
    obtain ⟨h1, h2⟩ := qw_Ev.br h (fun z => hk _ _ _ _ z p l e s m args below meth c g C0 H locs hP hS lsA hl) (fun z => hk _ _ _ _ z p l e s m args below meth c g C0 H locs hP hS lsA hl)
    exact lv_icmp_eq hx hb hd ht h1 h2
  case ne =>
    obtain ⟨h1, h2⟩ := qw_Ev.nb h (fun z => hk _ _ _ _ z p l e s m args below meth c g C0 H locs hP hS lsA hl) (fun z => hk _ _ _ _ z p l e s m args below meth c g C0 H locs hP hS lsA hl)
    exact lv_icmp_ne hx hb hd ht h1 h2
  case lt =>
    obtain ⟨h1, h2⟩ := qw_Ev.br h (fun z => hk _ _ _ _ z p l e s m args below meth c g C0 H locs hP hS lsA hl) (fun z => hk _ _ _ _ z p l e s m args below meth c g C0 H locs hP hS lsA hl)
    exact lv_icmp_lt hx hb hd ht h1 h2
  case ge =>
    obtain ⟨h1, h2⟩ := qw_Ev.br h (fun z => hk _ _ _ _ z p l e s m args below meth c g C0 H locs hP hS lsA hl) (fun z => hk _ _ _ _ z p l e s m args below meth c g C0 H locs hP hS lsA hl)
    exact lv_icmp_ge hx hb hd ht h1 h2
  case gt =>
    obtain ⟨h1, h2⟩ := qw_Ev.br h (fun z => hk _ _ _ _ z p l e s m args below meth c g C0 H locs hP hS lsA hl) (fun z => hk _ _ _ _ z p l e s m args below meth c g C0 H locs hP hS lsA hl)
    exact lv_icmp_gt hx hb hd ht h1 h2
  case le =>
    obtain ⟨h1, h2⟩ := qw_Ev.br h (fun z => hk _ _ _ _ z p l e s m args below meth c g C0 H locs hP hS lsA hl) (fun z => hk _ _ _ _ z p l e s m args below meth c g C0 H locs hP hS lsA hl)
    exact lv_icmp_le hx hb hd ht h1 h2
theorem qw_step_ifnull (hok : qw_ok tw w K) {k : Nat → qw_L → List Value → qw_M → Prop} (hk : qw_On tw w K Y Q k) {pc : Nat} {ls : qw_L} {st : List Value} {σ : qw_M} {off : Int} (hd : qw_dec (qw_yb Y) pc (.ifnull off)) (hF : qw_F tw w K Y Q k (.ifnull off) pc ls st σ) : qw_Ev tw w K Y Q pc ls st σ := by
  have hd := qw_dec1 hd rfl
  intro p l e s m args below meth c g C0 H locs hP hS lsA hl
  obtain ⟨hx, hb, hret, hml, hown, hts, hlk, hI, hK, hE⟩ := id C0
  obtain ⟨hgood, hwf, hcok, htok, hkok⟩ := id hok
  obtain ⟨t, ht, hF⟩ := qw_tg_inv hF
  split at hF <;> try exact False.elim hF
  · exact lv_ifnull hx hb hd (hk _ _ _ _ hF p l e s m args below meth c g C0 H locs hP hS lsA hl)
  · exact lv_ifnullN hx hb hd ht (hk _ _ _ _ hF p l e s m args below meth c g C0 H locs hP hS lsA hl)
theorem qw_step_ifnonnull (hok : qw_ok tw w K) {k : Nat → qw_L → List Value → qw_M → Prop} (hk : qw_On tw w K Y Q k) {pc : Nat} {ls : qw_L} {st : List Value} {σ : qw_M} {off : Int} (hd : qw_dec (qw_yb Y) pc (.ifnonnull off)) (hF : qw_F tw w K Y Q k (.ifnonnull off) pc ls st σ) : qw_Ev tw w K Y Q pc ls st σ := by
  have hd := qw_dec1 hd rfl
  intro p l e s m args below meth c g C0 H locs hP hS lsA hl
  obtain ⟨hx, hb, hret, hml, hown, hts, hlk, hI, hK, hE⟩ := id C0
  obtain ⟨hgood, hwf, hcok, htok, hkok⟩ := id hok
  obtain ⟨t, ht, hF⟩ := qw_tg_inv hF
  split at hF <;> try exact False.elim hF
  · exact lv_ifnonnull hx hb hd ht (hk _ _ _ _ hF p l e s m args below meth c g C0 H locs hP hS lsA hl)
  · exact lv_ifnonnullN hx hb hd (hk _ _ _ _ hF p l e s m args below meth c g C0 H locs hP hS lsA hl)
theorem qw_step_tableswitch (hok : qw_ok tw w K) {k : Nat → qw_L → List Value → qw_M → Prop} (hk : qw_On tw w K Y Q k) {pc : Nat} {ls : qw_L} {st : List Value} {σ : qw_M} {d lo hi : Int} {offs : Array Int} (hd : qw_dec (qw_yb Y) pc (.tableswitch d lo hi offs)) (hF : qw_F tw w K Y Q k (.tableswitch d lo hi offs) pc ls st σ) : qw_Ev tw w K Y Q pc ls st σ := by
  intro p l e s m args below meth c g C0 H locs hP hS lsA hl
  obtain ⟨hx, hb, hret, hml, hown, hts, hlk, hI, hK, hE⟩ := id C0
  obtain ⟨hgood, hwf, hcok, htok, hkok⟩ := id hok
  obtain ⟨n, hd, -⟩ := hd
  obtain ⟨x, r, rfl, h1, h2, h3⟩ := qw_i1_inv hF
  by_cases hc : x.toInt < lo ∨ hi < x.toInt
  · obtain ⟨t, ht, h⟩ := qw_tg_inv (h1 hc)
    exact lv_tableOut hx hb hd hc ht (hk _ _ _ _ h p l e s m args below meth c g C0 H locs hP hS lsA hl)
  · have hc1 : ¬ x.toInt < lo := fun z => hc (Or.inl z)
    have hc2 : ¬ hi < x.toInt := fun z => hc (Or.inr z)
    have hlt : (x.toInt - lo).toNat < offs.size := by omega
    have ho : offs[(x.toInt - lo).toNat]? = some offs[(x.toInt - lo).toNat] := Array.getElem?_eq_getElem hlt
    obtain ⟨t, ht, h⟩ := qw_tg_inv (qw_sw_inv h3 (x.toInt - lo).toNat offs[(x.toInt - lo).toNat] (by rw [← Array.getElem?_toList] at ho; exact ho) (by omega))
    exact lv_tableIn hx hb hd hc1 hc2 ho ht (hk _ _ _ _ h p l e s m args below meth c g C0 H locs hP hS lsA hl)
theorem qw_step_getstatic (hok : qw_ok tw w K) {k : Nat → qw_L → List Value → qw_M → Prop} (hk : qw_On tw w K Y Q k) {pc : Nat} {ls : qw_L} {st : List Value} {σ : qw_M} {j : Nat} (hd : qw_dec (qw_yb Y) pc (.getstatic j)) (hF : qw_F tw w K Y Q k (.getstatic j) pc ls st σ) : qw_Ev tw w K Y Q pc ls st σ := by
  have hd := qw_dec1 hd rfl
  intro p l e s m args below meth c g C0 H locs hP hS lsA hl
  obtain ⟨hx, hb, hret, hml, hown, hts, hlk, hI, hK, hE⟩ := id C0
  obtain ⟨hgood, hwf, hcok, htok, hkok⟩ := id hok
  dsimp only [qw_F] at hF
  cases hq : qw_lk (qw_kg K) j with
  | none => simp only [hq] at hF
  | some q =>
    simp only [hq] at hF
    cases hz : (qw_sta w)[q]? with
    | none => simp only [hz] at hF
    | some z =>
      simp only [hz] at hF
      split at hF <;> try exact False.elim hF
      rename_i x hv
      have h1 := hE.2.2.1 z (List.mem_of_getElem? hz)
      rw [hv] at h1
      exact va_gets hx hb h1 hS hown (hts _ (List.mem_cons_of_mem _ (hkok.2.2.2.2.1 j q z hq hz))) (fun _ h9 => h9) hd (hk _ _ _ _ hF p l e s m args below meth c g C0 H locs hP hS lsA hl)
theorem qw_step_getfield (hok : qw_ok tw w K) {k : Nat → qw_L → List Value → qw_M → Prop} (hk : qw_On tw w K Y Q k) {pc : Nat} {ls : qw_L} {st : List Value} {σ : qw_M} {j : Nat} (hd : qw_dec (qw_yb Y) pc (.getfield j)) (hF : qw_F tw w K Y Q k (.getfield j) pc ls st σ) : qw_Ev tw w K Y Q pc ls st σ := by
  have hd := qw_dec1 hd rfl
  intro p l e s m args below meth c g C0 H locs hP hS lsA hl
  obtain ⟨hx, hb, hret, hml, hown, hts, hlk, hI, hK, hE⟩ := id C0
  obtain ⟨hgood, hwf, hcok, htok, hkok⟩ := id hok
  obtain ⟨o, r, rfl, h⟩ := qw_o1_inv hF
  split at h
  · rename_i e1
    cases hq : qw_lk (qw_kf K) j with
    | none => simp only [hq] at h
    | some q =>
      simp only [hq] at h
      have h := qw_rw_inv h
      split at h <;> try exact False.elim h
      rename_i c0 e2
      split at h <;> try exact False.elim h
      rename_i v e3 e4
      obtain ⟨cc0, g1, g2, g3⟩ := hkok.1 j q hq
      obtain ⟨ws, q0, hPw, hq0⟩ := qw_cell hP hE hS (qw_lt e1)
      rw [e2] at hq0
      have e3 := Nat.eq_of_beq_eq_true e3
      obtain ⟨g4, g5, g6, g7⟩ := hcok q.1 cc0 g1
      have h8 : (c0.2.map (qw_rv g.2.1))[q.2]? = some (qw_rv g.2.1 v) := by rw [List.getElem?_map, e4]; rfl
      rcases g3 with g3 | ⟨host, g3⟩
      · exact va_get hx hb hts (fun x hx => List.mem_cons_of_mem _ (g6 x hx)) hown hK hPw q0 hq0 (by rw [e3]; exact g1) q.2 g2 (hts _ (List.mem_cons_of_mem _ g3)) (fun _ h9 => h9) h8 hd (hk _ _ _ _ h p l e s m args below meth c g C0 H locs hP hS lsA hl)
      · exact va_getN hx hb hts (fun x hx => List.mem_cons_of_mem _ (g6 x hx)) hown hK hPw q0 hq0 (by rw [e3]; exact g1) q.2 g2 (va_Nw.use rfl (hE.2.2.2.1 _ g3)) (fun _ h9 => h9) h8 hd (hk _ _ _ _ h p l e s m args below meth c g C0 H locs hP hS lsA hl)
  · rename_i e1
    split at h <;> try exact False.elim h
    · rename_i e2 e3
      have ho : qw_n w + qw_nR w + (o - (qw_n w + qw_nR w)) = o := by
        rcases Nat.lt_or_ge o (qw_n w + qw_nR w) with z | z
        · exact absurd (Nat.ble_eq_true_of_le z) (by show ¬ Nat.blt o (qw_n w + qw_nR w) = true; rw [e1]; decide)
        · omega
      have h1 := (hE.2.2.2.2.1 _ (qw_lt e3)).2.1
      rw [ho] at h1
      exact vk_getf hx hb h1 hS hown (hts _ (List.mem_cons_of_mem _ ((hkok.2.2.2.2.2.2.2 j _ e2).1 rfl))) (fun _ h9 => h9) hd (hk _ _ _ _ h p l e s m args below meth c g C0 H locs hP hS lsA hl)
    · rename_i e2 e3
      have ho : qw_n w + qw_nR w + (o - (qw_n w + qw_nR w)) = o := by
        rcases Nat.lt_or_ge o (qw_n w + qw_nR w) with z | z
        · exact absurd (Nat.ble_eq_true_of_le z) (by show ¬ Nat.blt o (qw_n w + qw_nR w) = true; rw [e1]; decide)
        · omega
      have h1 := (hE.2.2.2.2.1 _ (qw_lt e3)).2.2
      rw [ho] at h1
      exact vk_getf hx hb h1 hS hown (hts _ (List.mem_cons_of_mem _ ((hkok.2.2.2.2.2.2.2 j _ e2).2 rfl))) (fun _ h9 => h9) hd (hk _ _ _ _ h p l e s m args below meth c g C0 H locs hP hS lsA hl)
theorem qw_step_putfield (hok : qw_ok tw w K) {k : Nat → qw_L → List Value → qw_M → Prop} (hk : qw_On tw w K Y Q k) {pc : Nat} {ls : qw_L} {st : List Value} {σ : qw_M} {j : Nat} (hd : qw_dec (qw_yb Y) pc (.putfield j)) (hF : qw_F tw w K Y Q k (.putfield j) pc ls st σ) : qw_Ev tw w K Y Q pc ls st σ := by
  have hd := qw_dec1 hd rfl
  intro p l e s m args below meth c g C0 H locs hP hS lsA hl
  obtain ⟨hx, hb, hret, hml, hown, hts, hlk, hI, hK, hE⟩ := id C0
  obtain ⟨hgood, hwf, hcok, htok, hkok⟩ := id hok
  dsimp only [qw_F] at hF
  cases hq : qw_lk (qw_kf K) j with
  | none => simp only [hq] at hF
  | some q =>
    simp only [hq] at hF
    split at hF <;> try exact False.elim hF
    · rename_i x o r
      split at hF <;> try exact False.elim hF
      rename_i c0 e1 e2
      split at hF <;> try exact False.elim hF
      rename_i e3 e4
      have e3 := Nat.eq_of_beq_eq_true e3
      have e4 := Nat.eq_of_beq_eq_true e4
      obtain ⟨cc0, g1, g2, g3⟩ := hkok.1 j q hq
      obtain ⟨⟨ty0, g4⟩, g5, g6, g7⟩ := hcok q.1 cc0 g1
      obtain ⟨k1, k2, k3⟩ := (g7 q.2).1 e4
      obtain ⟨k4, k5⟩ := (hwf.2 o (σ o) c0 e2 q.2).1 (by rw [e3]; exact e4)
      have hq0 := qw_ws_at (w := w) (g := g) (σ := σ) (qw_lt e1)
      rw [e2] at hq0
      have kk : ∀ (H1 : Heap) (locs1 : List Loc), va_P g.1 (qw_cl w) ((qw_ws w g σ).set o (g.2.1 o, .inr (c0.1, (c0.2.map (qw_rv g.2.1)).set q.2 (.int x)))) H1 → va_D (qw_A w g) ((qw_ws w g σ).set o (g.2.1 o, .inr (c0.1, (c0.2.map (qw_rv g.2.1)).set q.2 (.int x)))) → va_S (qw_A w g) s.heap H1 locs1 → W p l e (qw_rm Y) s m args below meth c H1 locs1 0 0 (MQ below (qw_Z w g Y Q) args s 0 0 (qw_A w g)) (F0 m (pc + 3) lsA (r.map (qw_rv g.2.1))) := fun H1 locs1 hP1 hD1 hS1 =>
        hk _ _ _ _ hF p l e s m args below meth c g C0 H1 locs1 (qw_P.put (qw_lt e1) (by rw [k5 x]; simp only [qw_re, List.map_set]; rfl) hP1) hS1 lsA hl
      rcases g3 with g3 | ⟨host, g3⟩
      · exact va_put hx hb hts (fun x hx => List.mem_cons_of_mem _ (g6 x hx)) ty0 g4 g5 hown hK hP (qw_D hI) hS o hq0 (by rw [e3]; exact g1) q.2 k1 (hts _ (List.mem_cons_of_mem _ g3)) (fun _ h9 => h9) k3 k2 (v := .int x) rfl rfl (by rw [List.length_map]; exact k4) hd kk
      · exact va_putN hx hb hts (fun x hx => List.mem_cons_of_mem _ (g6 x hx)) ty0 g4 g5 hown hK hP (qw_D hI) hS o hq0 (by rw [e3]; exact g1) q.2 k1 (va_Nw.use rfl (hE.2.2.2.1 _ g3)) (fun _ h9 => h9) k3 k2 (v := .int x) rfl rfl (by rw [List.length_map]; exact k4) hd kk
    · rename_i x o r
      split at hF <;> try exact False.elim hF
      rename_i c0 e1 e2
      split at hF <;> try exact False.elim hF
      rename_i e3 e4
      have e3 := Nat.eq_of_beq_eq_true e3
      have e4 := Nat.eq_of_beq_eq_true e4
      obtain ⟨cc0, g1, g2, g3⟩ := hkok.1 j q hq
      obtain ⟨⟨ty0, g4⟩, g5, g6, g7⟩ := hcok q.1 cc0 g1
      obtain ⟨k1, k2, k3⟩ := (g7 q.2).2 e4
      obtain ⟨k4, k5⟩ := (hwf.2 o (σ o) c0 e2 q.2).2 (by rw [e3]; exact e4)
      have hq0 := qw_ws_at (w := w) (g := g) (σ := σ) (qw_lt e1)
      rw [e2] at hq0
      have kk : ∀ (H1 : Heap) (locs1 : List Loc), va_P g.1 (qw_cl w) ((qw_ws w g σ).set o (g.2.1 o, .inr (c0.1, (c0.2.map (qw_rv g.2.1)).set q.2 (.long x)))) H1 → va_D (qw_A w g) ((qw_ws w g σ).set o (g.2.1 o, .inr (c0.1, (c0.2.map (qw_rv g.2.1)).set q.2 (.long x)))) → va_S (qw_A w g) s.heap H1 locs1 → W p l e (qw_rm Y) s m args below meth c H1 locs1 0 0 (MQ below (qw_Z w g Y Q) args s 0 0 (qw_A w g)) (F0 m (pc + 3) lsA (r.map (qw_rv g.2.1))) := fun H1 locs1 hP1 hD1 hS1 =>
        hk _ _ _ _ hF p l e s m args below meth c g C0 H1 locs1 (qw_P.put (qw_lt e1) (by rw [k5 x]; simp only [qw_re, List.map_set]; rfl) hP1) hS1 lsA hl
      rcases g3 with g3 | ⟨host, g3⟩
      · exact va_put hx hb hts (fun x hx => List.mem_cons_of_mem _ (g6 x hx)) ty0 g4 g5 hown hK hP (qw_D hI) hS o hq0 (by rw [e3]; exact g1) q.2 k1 (hts _ (List.mem_cons_of_mem _ g3)) (fun _ h9 => h9) k3 k2 (v := .long x) rfl rfl (by rw [List.length_map]; exact k4) hd kk
      · exact va_putN hx hb hts (fun x hx => List.mem_cons_of_mem _ (g6 x hx)) ty0 g4 g5 hown hK hP (qw_D hI) hS o hq0 (by rw [e3]; exact g1) q.2 k1 (va_Nw.use rfl (hE.2.2.2.1 _ g3)) (fun _ h9 => h9) k3 k2 (v := .long x) rfl rfl (by rw [List.length_map]; exact k4) hd kk
theorem qw_step_arraylength (hok : qw_ok tw w K) {k : Nat → qw_L → List Value → qw_M → Prop} (hk : qw_On tw w K Y Q k) {pc : Nat} {ls : qw_L} {st : List Value} {σ : qw_M} (hd : qw_dec (qw_yb Y) pc (.arraylength)) (hF : qw_F tw w K Y Q k (.arraylength) pc ls st σ) : qw_Ev tw w K Y Q pc ls st σ := by
  have hd := qw_dec1 hd rfl
  intro p l e s m args below meth c g C0 H locs hP hS lsA hl
  obtain ⟨hx, hb, hret, hml, hown, hts, hlk, hI, hK, hE⟩ := id C0
  obtain ⟨hgood, hwf, hcok, htok, hkok⟩ := id hok
  obtain ⟨o, r, rfl, h⟩ := qw_o1_inv hF
  split at h <;> try exact False.elim h
  rename_i e1
  have h := qw_rw_inv h
  split at h <;> try exact False.elim h
  rename_i q e2
  split at h <;> try exact False.elim h
  rename_i e3
  obtain ⟨ws, q0, hPw, hq0⟩ := qw_cell hP hE hS (qw_lt e1)
  rw [e2] at hq0
  exact va_alen hx hb hK hPw q0 q.1 hq0 (qw_ts_at (qw_lt e3)) rfl hd (hk _ _ _ _ h p l e s m args below meth c g C0 H locs hP hS lsA hl)
theorem qw_step_iaload (hok : qw_ok tw w K) {k : Nat → qw_L → List Value → qw_M → Prop} (hk : qw_On tw w K Y Q k) {pc : Nat} {ls : qw_L} {st : List Value} {σ : qw_M} (hd : qw_dec (qw_yb Y) pc (.iaload)) (hF : qw_F tw w K Y Q k (.iaload) pc ls st σ) : qw_Ev tw w K Y Q pc ls st σ := by
  have hd := qw_dec1 hd rfl
  intro p l e s m args below meth c g C0 H locs hP hS lsA hl
  obtain ⟨hx, hb, hret, hml, hown, hts, hlk, hI, hK, hE⟩ := id C0
  obtain ⟨hgood, hwf, hcok, htok, hkok⟩ := id hok
  dsimp only [qw_F] at hF
  split at hF <;> try exact False.elim hF
  rename_i i o r
  split at hF <;> try exact False.elim hF
  rename_i e1
  have hF := qw_rw_inv hF
  split at hF <;> try exact False.elim hF
  rename_i q e2
  split at hF <;> try exact False.elim hF
  rename_i e3
  obtain ⟨hin, h⟩ := hF
  have e3 := Nat.eq_of_beq_eq_true e3
  obtain ⟨ws, q0, hPw, hq0⟩ := qw_cell hP hE hS (qw_lt e1)
  rw [e2] at hq0
  exact va_iald hx hb hK hPw q0 0 (cA := g.2.2 0) (by rw [hq0]; simp only [qw_re]; rw [e3]) (by rw [qw_ts_at (Nat.lt_of_le_of_lt (Nat.zero_le _) htok.2.2.2.1), htok.1]) hin hd (hk _ _ _ _ h p l e s m args below meth c g C0 H locs hP hS lsA hl)
theorem qw_step_baload (hok : qw_ok tw w K) {k : Nat → qw_L → List Value → qw_M → Prop} (hk : qw_On tw w K Y Q k) {pc : Nat} {ls : qw_L} {st : List Value} {σ : qw_M} (hd : qw_dec (qw_yb Y) pc (.baload)) (hF : qw_F tw w K Y Q k (.baload) pc ls st σ) : qw_Ev tw w K Y Q pc ls st σ := by
  have hd := qw_dec1 hd rfl
  intro p l e s m args below meth c g C0 H locs hP hS lsA hl
  obtain ⟨hx, hb, hret, hml, hown, hts, hlk, hI, hK, hE⟩ := id C0
  obtain ⟨hgood, hwf, hcok, htok, hkok⟩ := id hok
  dsimp only [qw_F] at hF
  split at hF <;> try exact False.elim hF
  rename_i i o r
  split at hF <;> try exact False.elim hF
  rename_i e1
  have hF := qw_rw_inv hF
  split at hF <;> try exact False.elim hF
  rename_i q e2
  split at hF <;> try exact False.elim hF
  rename_i e3
  obtain ⟨hin, h⟩ := hF
  have e3 := Nat.eq_of_beq_eq_true e3
  obtain ⟨ws, q0, hPw, hq0⟩ := qw_cell hP hE hS (qw_lt e1)
  rw [e2] at hq0
  exact va_bald hx hb hK hPw q0 1 (cA := g.2.2 1) (by rw [hq0]; simp only [qw_re]; rw [e3]) (by rw [qw_ts_at (Nat.lt_of_le_of_lt (by omega : 1 ≤ 2) htok.2.2.2.1), htok.2.1]) hin hd (hk _ _ _ _ h p l e s m args below meth c g C0 H locs hP hS lsA hl)
theorem qw_step_aaload (hok : qw_ok tw w K) {k : Nat → qw_L → List Value → qw_M → Prop} (hk : qw_On tw w K Y Q k) {pc : Nat} {ls : qw_L} {st : List Value} {σ : qw_M} (hd : qw_dec (qw_yb Y) pc (.aaload)) (hF : qw_F tw w K Y Q k (.aaload) pc ls st σ) : qw_Ev tw w K Y Q pc ls st σ := by
  have hd := qw_dec1 hd rfl
  intro p l e s m args below meth c g C0 H locs hP hS lsA hl
  obtain ⟨hx, hb, hret, hml, hown, hts, hlk, hI, hK, hE⟩ := id C0
  obtain ⟨hgood, hwf, hcok, htok, hkok⟩ := id hok
  dsimp only [qw_F] at hF
  split at hF <;> try exact False.elim hF
  rename_i i o r
  split at hF <;> try exact False.elim hF
  rename_i q e1 e2
  split at hF <;> try exact False.elim hF
  rename_i e3
  obtain ⟨hin, h1, h2⟩ := hF
  have e3 := Nat.eq_of_beq_eq_true e3
  obtain ⟨C, hC⟩ := htok.2.2.1
  have hq0 := qw_ws_at (w := w) (g := g) (σ := σ) (qw_lt e1)
  rw [e2] at hq0
  refine va_aldq hx hb hK hP o 2 (cA := g.2.2 2) (C := C) (by rw [hq0]; simp only [qw_re]; rw [e3]) (by rw [qw_ts_at htok.2.2.2.1, hC]) hin hd ?_
  cases hz : q.2.2 i.toNatClampNeg with
  | none =>
    have h := h2 hz
    simp only [hz, Option.map_none]
    exact hk _ _ _ _ h p l e s m args below meth c g C0 H locs hP hS lsA hl
  | some z =>
    have h := h1 z hz
    simp only [hz, Option.map_some]
    exact hk _ _ _ _ h p l e s m args below meth c g C0 H locs hP hS lsA hl
theorem qw_step_iastore (hok : qw_ok tw w K) {k : Nat → qw_L → List Value → qw_M → Prop} (hk : qw_On tw w K Y Q k) {pc : Nat} {ls : qw_L} {st : List Value} {σ : qw_M} (hd : qw_dec (qw_yb Y) pc (.iastore)) (hF : qw_F tw w K Y Q k (.iastore) pc ls st σ) : qw_Ev tw w K Y Q pc ls st σ := by
  have hd := qw_dec1 hd rfl
  intro p l e s m args below meth c g C0 H locs hP hS lsA hl
  obtain ⟨hx, hb, hret, hml, hown, hts, hlk, hI, hK, hE⟩ := id C0
  obtain ⟨hgood, hwf, hcok, htok, hkok⟩ := id hok
  dsimp only [qw_F] at hF
  split at hF <;> try exact False.elim hF
  rename_i x i o r
  split at hF <;> try exact False.elim hF
  rename_i q e1 e2
  split at hF <;> try exact False.elim hF
  rename_i e3
  obtain ⟨hin, h⟩ := hF
  have e3 := Nat.eq_of_beq_eq_true e3
  have hq0 := qw_ws_at (w := w) (g := g) (σ := σ) (qw_lt e1)
  rw [e2] at hq0
  refine va_iast hx hb hK hP (qw_D hI) hS o 0 (cA := g.2.2 0) (n := q.2) (f := (σ o).1) (by rw [hq0]; simp only [qw_re]; rw [e3]) (by rw [qw_ts_at (Nat.lt_of_le_of_lt (Nat.zero_le _) htok.2.2.2.1), htok.1]) hin hd (fun H1 locs1 hP1 hD1 hS1 => ?_)
  exact hk _ _ _ _ h p l e s m args below meth c g C0 H1 locs1 (qw_P.put (qw_lt e1) (by rw [hwf.1 o _ q e2]; simp only [qw_re]; rw [e3]) hP1) hS1 lsA hl
theorem qw_step_return_ (hok : qw_ok tw w K) {k : Nat → qw_L → List Value → qw_M → Prop} (hk : qw_On tw w K Y Q k) {pc : Nat} {ls : qw_L} {st : List Value} {σ : qw_M} (hd : qw_dec (qw_yb Y) pc (.return_)) (hF : qw_F tw w K Y Q k (.return_) pc ls st σ) : qw_Ev tw w K Y Q pc ls st σ := by
  have hd := qw_dec1 hd rfl
  intro p l e s m args below meth c g C0 H locs hP hS lsA hl
  obtain ⟨hx, hb, hret, hml, hown, hts, hlk, hI, hK, hE⟩ := id C0
  obtain ⟨hgood, hwf, hcok, htok, hkok⟩ := id hok
  dsimp only [qw_F] at hF
  split at hF <;> try exact False.elim hF
  cases hy : qw_yr Y with
  | some t => simp only [hy] at hF
  | none =>
    simp only [hy] at hF
    exact W.vret hx hb (hret.trans hy) (fun t ht hW => ⟨⟨none, σ, rfl, by rw [hy]; rfl, hF, by rw [ht]; exact hP⟩, hS.F ht⟩) hS.2.2 hd hlk
theorem qw_nar01 {x : Int32} (h : x = 0 ∨ x = 1) : narrow .boolean (.int x) = .int x := by
  rcases h with rfl | rfl <;> rfl
theorem qw_step_ireturn (hok : qw_ok tw w K) {k : Nat → qw_L → List Value → qw_M → Prop} (hk : qw_On tw w K Y Q k) {pc : Nat} {ls : qw_L} {st : List Value} {σ : qw_M} (hd : qw_dec (qw_yb Y) pc (.ireturn)) (hF : qw_F tw w K Y Q k (.ireturn) pc ls st σ) : qw_Ev tw w K Y Q pc ls st σ := by
  have hd := qw_dec1 hd rfl
  intro p l e s m args below meth c g C0 H locs hP hS lsA hl
  obtain ⟨hx, hb, hret, hml, hown, hts, hlk, hI, hK, hE⟩ := id C0
  obtain ⟨hgood, hwf, hcok, htok, hkok⟩ := id hok
  dsimp only [qw_F] at hF
  split at hF <;> try exact False.elim hF
  rename_i x
  split at hF <;> try exact False.elim hF
  · rename_i hy
    exact W.iret hx hb (hret.trans hy) (fun t ht hW => ⟨⟨some (.int x), σ, rfl, by rw [hy]; exact ⟨x, rfl⟩, hF, by rw [ht]; exact hP⟩, hS.F ht⟩) hS.2.2 hd hlk
  · rename_i hy
    obtain ⟨h0, hF⟩ := hF
    exact W.zret hx hb (hret.trans hy) (qw_nar01 h0) (fun t ht hW => ⟨⟨some (.int x), σ, rfl, by rw [hy]; exact h0.imp (fun z => by rw [z]) (fun z => by rw [z]), hF, by rw [ht]; exact hP⟩, hS.F ht⟩) hS.2.2 hd hlk
  · rename_i hy
    obtain ⟨h0, hF⟩ := hF
    exact W.zret hx hb (hret.trans hy) h0 (fun t ht hW => ⟨⟨some (.int x), σ, rfl, by rw [hy]; exact ⟨x, rfl⟩, hF, by rw [ht]; exact hP⟩, hS.F ht⟩) hS.2.2 hd hlk
theorem qw_step_lreturn (hok : qw_ok tw w K) {k : Nat → qw_L → List Value → qw_M → Prop} (hk : qw_On tw w K Y Q k) {pc : Nat} {ls : qw_L} {st : List Value} {σ : qw_M} (hd : qw_dec (qw_yb Y) pc (.lreturn)) (hF : qw_F tw w K Y Q k (.lreturn) pc ls st σ) : qw_Ev tw w K Y Q pc ls st σ := by
  have hd := qw_dec1 hd rfl
  intro p l e s m args below meth c g C0 H locs hP hS lsA hl
  obtain ⟨hx, hb, hret, hml, hown, hts, hlk, hI, hK, hE⟩ := id C0
  obtain ⟨hgood, hwf, hcok, htok, hkok⟩ := id hok
  dsimp only [qw_F] at hF
  split at hF <;> try exact False.elim hF
  rename_i x
  split at hF <;> try exact False.elim hF
  rename_i hy
  exact W.lret hx hb (hret.trans hy) (fun t ht hW => ⟨⟨some (.long x), σ, rfl, by rw [hy]; exact ⟨x, rfl⟩, hF, by rw [ht]; exact hP⟩, hS.F ht⟩) hS.2.2 hd hlk
theorem qw_step_areturn (hok : qw_ok tw w K) {k : Nat → qw_L → List Value → qw_M → Prop} (hk : qw_On tw w K Y Q k) {pc : Nat} {ls : qw_L} {st : List Value} {σ : qw_M} (hd : qw_dec (qw_yb Y) pc (.areturn)) (hF : qw_F tw w K Y Q k (.areturn) pc ls st σ) : qw_Ev tw w K Y Q pc ls st σ := by
  have hd := qw_dec1 hd rfl
  intro p l e s m args below meth c g C0 H locs hP hS lsA hl
  obtain ⟨hx, hb, hret, hml, hown, hts, hlk, hI, hK, hE⟩ := id C0
  obtain ⟨hgood, hwf, hcok, htok, hkok⟩ := id hok
  dsimp only [qw_F] at hF
  split at hF <;> try exact False.elim hF
  · rename_i x
    split at hF <;> try exact False.elim hF
    rename_i C hy
    exact W.aret (v := .ref (g.2.1 x)) hx hb (hret.trans hy) (Or.inl ⟨C, rfl⟩) (Or.inr ⟨_, rfl⟩) (fun t ht hW => ⟨⟨some (.ref x), σ, rfl, by rw [hy]; exact Or.inr ⟨x, rfl⟩, hF, by rw [ht]; exact hP⟩, hS.F ht⟩) hS.2.2 hd hlk
  · split at hF <;> try exact False.elim hF
    rename_i C hy
    exact W.aret (v := .null) hx hb (hret.trans hy) (Or.inl ⟨C, rfl⟩) (Or.inl rfl) (fun t ht hW => ⟨⟨some .null, σ, rfl, by rw [hy]; exact Or.inl rfl, hF, by rw [ht]; exact hP⟩, hS.F ht⟩) hS.2.2 hd hlk
end QS3
end
section
/-! CORE 5: calls, runs, methods -/
section QS4
variable {tw : List Cond} {w : qw_Wd} {K : qw_K} {Y : qw_Y} {Q : Option Value → qw_M → Prop}
theorem qw_mapA {g : qw_Ad} (r : Option Value) (rest : List Value) : (r.toList ++ rest).map (qw_rv g.2.1) = (r.map (qw_rv g.2.1)).toList ++ rest.map (qw_rv g.2.1) := by
  cases r <;> rfl
theorem qw_catS {g : qw_Ad} (rest : List Value) : ((rest.map (qw_rv g.2.1)).map fun v => v.category).sum = (rest.map fun v => v.category).sum := by
  rw [List.map_map]
  congr 1
  apply List.map_congr_left
  intro v _
  exact qw_cat _ v
theorem qw_step_invokevirtual (hok : qw_ok tw w K) {k : Nat → qw_L → List Value → qw_M → Prop} (hk : qw_On tw w K Y Q k) {pc : Nat} {ls : qw_L} {st : List Value} {σ : qw_M} {j : Nat} (hd : qw_dec (qw_yb Y) pc (.invokevirtual j)) (hF : qw_F tw w K Y Q k (.invokevirtual j) pc ls st σ) : qw_Ev tw w K Y Q pc ls st σ := by
  have hd := qw_dec1 hd rfl
  intro p l e s m args below meth c g C0 H locs hP hS lsA hl
  obtain ⟨hx, hb, hret, hml, hown, hts, hlk, hI, hK, hE⟩ := id C0
  obtain ⟨hgood, hwf, hcok, htok, hkok⟩ := id hok
  dsimp only [qw_F] at hF
  split at hF <;> try exact False.elim hF
  rename_i ci Yc hq
  split at hF <;> try exact False.elim hF
  rename_i o r e1 e2
  have e1 := Nat.le_of_ble_eq_true e1
  obtain ⟨a1, a2, a3, a4, -, a5⟩ := hkok.2.1 j _ hq
  obtain ⟨a6, a7, a8⟩ := a5 ci rfl
  have hX : qw_cal tw w Y Yc (.ref o :: (st.take (qw_yp Yc)).reverse) r σ (fun st' σ' => k (pc + 3) ls st' σ') ∧ ∃ cell : Cell, H[g.2.1 o]? = some cell ∧ cell.vm.isStatics = false ∧ s.vm.findClass (qw_yn Yc).cls = some cell.cls := by
    split at hF
    · rename_i e3
      have hF := qw_rw_inv hF
      split at hF <;> try exact False.elim hF
      rename_i c0 e4
      split at hF <;> try exact False.elim hF
      rename_i e5 e6
      have e5 := Nat.eq_of_beq_eq_true e5
      refine ⟨hF, ?_⟩
      obtain ⟨ws, q0, hPw, hq0⟩ := qw_cell hP hE hS (qw_lt e3)
      rw [e4] at hq0
      rcases a8 with ⟨a8, -⟩ | ⟨cc0, a8, a9⟩
      · have := qw_lt e6
        omega
      · have := va_recv hK hPw (ci := c0.1) (q := cc0) (by rw [e5]; exact a8) hq0
        rw [a9] at this
        exact this
    · rename_i e3
      split at hF <;> try exact False.elim hF
      rename_i e5 e6
      have e5 := Nat.eq_of_beq_eq_true e5
      refine ⟨hF, ?_⟩
      have ho : qw_n w + qw_nR w + (o - (qw_n w + qw_nR w)) = o := by
        rcases Nat.lt_or_ge o (qw_n w + qw_nR w) with z | z
        · exact absurd (Nat.ble_eq_true_of_le z) (by show ¬ Nat.blt o (qw_n w + qw_nR w) = true; rw [e3]; decide)
        · omega
      have h1 := (hE.2.2.2.2.1 _ (qw_lt e6)).1
      rw [ho] at h1
      obtain ⟨cell, b1, b2, b3, -⟩ := h1.kept hS.2.1
      rcases a8 with ⟨-, a8⟩ | ⟨cc0, a8, a9⟩
      · exact ⟨cell, b1, b2, by rw [a8]; exact b3⟩
      · exact absurd a8 (by rw [e5, htok.2.2.2.2]; simp)
  obtain ⟨hF, hrecv⟩ := hX
  obtain ⟨h1, h2, h3, Qc, hM, hf⟩ := qw_cont hF
  have hst : st = (st.take (qw_yp Yc)) ++ .ref o :: r := by rw [← e2, List.take_append_drop]
  have hin : ∀ x ∈ wsV (qw_kn K) j (qw_yn Yc).cls (qw_yn Yc) (qw_yc Yc :: tw), x ∈ tw := by
    intro x hx
    simp only [wsV, List.mem_append, List.mem_cons, List.not_mem_nil, or_false] at hx
    rcases hx with (rfl | rfl | rfl | rfl) | rfl | hx
    · exact a2
    · exact a6
    · exact a7
    · exact a3
    · exact a1
    · exact hx
  have hG : GoodIn (qw_yc Y :: tw) (wsV (qw_kn K) j (qw_yn Yc).cls (qw_yn Yc) (qw_yc Yc :: tw)) := fun x hx => ⟨List.mem_cons_of_mem _ (hin x hx), hgood x (hin x hx)⟩
  have hM' := hM l g hI
  refine qw_go (rest := r.map (qw_rv g.2.1)) (va_runV (As := (st.take (qw_yp Yc)).reverse.map (qw_rv g.2.1)) ⟨hx, hb, hml, hown, hts⟩ hM' (cwV (qw_yp Yc) hts hG rfl rfl rfl ⟨rfl, a4⟩ ⟨h2, h3⟩) ⟨qw_blind, hrecv, fun U hU hW => ⟨rfl, by rw [hU]; exact hP, va_K.moved hW.alike hK, by rw [hU]; exact hE.to hW hS⟩⟩ rfl ?_ hl.1 ?_ (lv_room (by rw [qw_catS]; exact h1)) hd ⟨Nat.le_refl 0, Nat.le_refl 0⟩) hS (fun r2 σ' H1 locs1 hsh hq2 hP1 hS1 => ?_)
  · simp only [List.length_map, List.length_reverse, List.length_take]
    omega
  · show st.map (qw_rv g.2.1) = _
    conv => lhs; rw [hst]
    simp only [List.map_append, List.map_cons, List.map_reverse, List.reverse_reverse]
    rfl
  · rw [← qw_mapA]
    exact hk _ _ _ _ (hf r2 σ' hsh hq2) p l e s m args below meth c g C0 H1 locs1 hP1 hS1 lsA hl
theorem qw_step_invokestatic (hok : qw_ok tw w K) {k : Nat → qw_L → List Value → qw_M → Prop} (hk : qw_On tw w K Y Q k) {pc : Nat} {ls : qw_L} {st : List Value} {σ : qw_M} {j : Nat} (hd : qw_dec (qw_yb Y) pc (.invokestatic j)) (hF : qw_F tw w K Y Q k (.invokestatic j) pc ls st σ) : qw_Ev tw w K Y Q pc ls st σ := by
  have hd := qw_dec1 hd rfl
  intro p l e s m args below meth c g C0 H locs hP hS lsA hl
  obtain ⟨hx, hb, hret, hml, hown, hts, hlk, hI, hK, hE⟩ := id C0
  obtain ⟨hgood, hwf, hcok, htok, hkok⟩ := id hok
  dsimp only [qw_F] at hF
  split at hF <;> try exact False.elim hF
  · rename_i Yc hq
    split at hF <;> try exact False.elim hF
    rename_i e1
    have e1 := Nat.le_of_ble_eq_true e1
    obtain ⟨h1, h2, h3, Qc, hM, hf⟩ := qw_cont hF
    obtain ⟨a1, a2, a3, a4, a5, -⟩ := hkok.2.1 j _ hq
    have a5 := a5 rfl
    have hst : st = (st.take (qw_yp Yc)) ++ st.drop (qw_yp Yc) := by rw [List.take_append_drop]
    have hin : ∀ x ∈ va_wsS (qw_kn K) j (qw_yn Yc) (qw_yc Yc :: tw), x ∈ tw := by
      intro x hx
      simp only [va_wsS, List.mem_append, List.mem_cons, List.not_mem_nil, or_false] at hx
      rcases hx with (rfl | rfl | rfl) | rfl | hx
      · exact a2
      · exact a5
      · exact a3
      · exact a1
      · exact hx
    have hG : GoodIn (qw_yc Y :: tw) (va_wsS (qw_kn K) j (qw_yn Yc) (qw_yc Yc :: tw)) := fun x hx => ⟨List.mem_cons_of_mem _ (hin x hx), hgood x (hin x hx)⟩
    have hM' := hM l g hI
    refine qw_go (rest := (st.drop (qw_yp Yc)).map (qw_rv g.2.1)) (va_runS (As := (st.take (qw_yp Yc)).reverse.map (qw_rv g.2.1)) ⟨hx, hb, hml, hown, hts⟩ hM' (va_cwS (qw_yp Yc) hts hG rfl rfl rfl a4 ⟨h2, h3⟩) ⟨qw_blind, fun U hU hW => ⟨rfl, by rw [hU]; exact hP, va_K.moved hW.alike hK, by rw [hU]; exact hE.to hW hS⟩⟩ rfl ?_ hl.1 ?_ (lv_room (by rw [qw_catS]; exact h1)) hd ⟨Nat.le_refl 0, Nat.le_refl 0⟩) hS (fun r2 σ' H1 locs1 hsh hq2 hP1 hS1 => ?_)
    · simp only [List.length_map, List.length_reverse, List.length_take]
      omega
    · show st.map (qw_rv g.2.1) = _
      conv => lhs; rw [hst]
      simp only [List.map_append, List.map_reverse, List.reverse_reverse]
    · rw [← qw_mapA]
      exact hk _ _ _ _ (hf r2 σ' hsh hq2) p l e s m args below meth c g C0 H1 locs1 hP1 hS1 lsA hl
  · split at hF <;> try exact False.elim hF
    rename_i n dp o sp o0 e0
    split at hF <;> try exact False.elim hF
    rename_i q q0 e1 e2 e3 e4
    split at hF <;> try exact False.elim hF
    rename_i e5 e6
    have e5 := Nat.eq_of_beq_eq_true e5
    have e6 := Nat.eq_of_beq_eq_true e6
    obtain ⟨⟨b1, b2, b3, b4, b5⟩, ⟨b6, b7⟩, h⟩ := hF
    obtain ⟨a1, a2, a3, a4⟩ := hkok.2.2.2.2.2.1 j e0
    have hq := qw_ws_at (w := w) (g := g) (σ := σ) (qw_lt e1)
    rw [e3] at hq
    have hq0 := qw_ws_at (w := w) (g := g) (σ := σ) (qw_lt e2)
    rw [e4] at hq0
    have ht0 : (qw_ts w g)[0]? = some (g.2.2 0, FieldType.int) := by rw [qw_ts_at (Nat.lt_of_le_of_lt (Nat.zero_le _) htok.2.2.2.1), htok.1]
    refine va_copyi hx hb (hml.trans hl.1.symm) hown (hts _ (List.mem_cons_of_mem _ a1)) (hts _ (List.mem_cons_of_mem _ a2)) (hts _ (List.mem_cons_of_mem _ a3)) (hts _ (List.mem_cons_of_mem _ a4)) hK hP (qw_D hI) hS o0 o 0 0 (c0 := g.2.2 0) (c1 := g.2.2 0) (n0 := q0.2) (n1 := q.2) (f := (σ o0).1) (g := (σ o).1) (ty := .int) (by rw [hq0]; simp only [qw_re]; rw [e6]) (by rw [hq]; simp only [qw_re]; rw [e5]) ht0 ht0 rfl b1 b2 b3 b4 b5 (fun _ _ => rfl) b6 (by simpa using b7) hd (fun H1 locs1 hP1 hD1 hS1 => ?_)
    exact hk _ _ _ _ h p l e s m args below meth c g C0 H1 locs1 (qw_P.put (qw_lt e1) (by rw [hwf.1 o _ q e3]; simp only [qw_re]; rw [e5]) hP1) hS1 lsA hl
theorem qw_step (hok : qw_ok tw w K) {k : Nat → qw_L → List Value → qw_M → Prop} (hk : qw_On tw w K Y Q k) {i : Instr} {pc : Nat} {ls : qw_L} {st : List Value} {σ : qw_M} (hd : qw_dec (qw_yb Y) pc i) (hF : qw_F tw w K Y Q k i pc ls st σ) : qw_Ev tw w K Y Q pc ls st σ := by
  cases i
  case iconst => exact qw_step_iconst hok hk hd hF
  case bipush => exact qw_step_bipush hok hk hd hF
  case sipush => exact qw_step_sipush hok hk hd hF
  case lconst => exact qw_step_lconst hok hk hd hF
  case aconst_null => exact qw_step_aconst_null hok hk hd hF
  case ldc_w => exact qw_step_ldc_w hok hk hd hF
  case ldc2_w => exact qw_step_ldc2_w hok hk hd hF
  case ldc => exact qw_step_ldc hok hk hd hF
  case iload_n => exact qw_step_iload_n hok hk hd hF
  case lload_n => exact qw_step_lload_n hok hk hd hF
  case iload => exact qw_step_iload hok hk hd hF
  case lload => exact qw_step_lload hok hk hd hF
  case aload_n => exact qw_step_aload_n hok hk hd hF
  case aload => exact qw_step_aload hok hk hd hF
  case istore_n => exact qw_step_istore_n hok hk hd hF
  case istore => exact qw_step_istore hok hk hd hF
  case lstore_n => exact qw_step_lstore_n hok hk hd hF
  case lstore => exact qw_step_lstore hok hk hd hF
  case astore_n => exact qw_step_astore_n hok hk hd hF
  case astore => exact qw_step_astore hok hk hd hF
  case iinc => exact qw_step_iinc hok hk hd hF
  case iadd => exact qw_step_iadd hok hk hd hF
  case isub => exact qw_step_isub hok hk hd hF
  case imul => exact qw_step_imul hok hk hd hF
  case iand => exact qw_step_iand hok hk hd hF
  case ior => exact qw_step_ior hok hk hd hF
  case ixor => exact qw_step_ixor hok hk hd hF
  case ishl => exact qw_step_ishl hok hk hd hF
  case ishr => exact qw_step_ishr hok hk hd hF
  case iushr => exact qw_step_iushr hok hk hd hF
  case idiv => exact qw_step_idiv hok hk hd hF
  case irem => exact qw_step_irem hok hk hd hF
  case ladd => exact qw_step_ladd hok hk hd hF
  case lsub => exact qw_step_lsub hok hk hd hF
  case lmul => exact qw_step_lmul hok hk hd hF
  case lcmp => exact qw_step_lcmp hok hk hd hF
  case ldiv => exact qw_step_ldiv hok hk hd hF
  case lrem => exact qw_step_lrem hok hk hd hF
  case lshl => exact qw_step_lshl hok hk hd hF
  case i2l => exact qw_step_i2l hok hk hd hF
  case i2b => exact qw_step_i2b hok hk hd hF
  case i2s => exact qw_step_i2s hok hk hd hF
  case i2c => exact qw_step_i2c hok hk hd hF
  case dup => exact qw_step_dup hok hk hd hF
  case pop => exact qw_step_pop hok hk hd hF
  case dup2 => exact qw_step_dup2 hok hk hd hF
  case goto => exact qw_step_goto hok hk hd hF
  case ifCond => exact qw_step_ifCond hok hk hd hF
  case if_icmp => exact qw_step_if_icmp hok hk hd hF
  case ifnull => exact qw_step_ifnull hok hk hd hF
  case ifnonnull => exact qw_step_ifnonnull hok hk hd hF
  case tableswitch => exact qw_step_tableswitch hok hk hd hF
  case getstatic => exact qw_step_getstatic hok hk hd hF
  case getfield => exact qw_step_getfield hok hk hd hF
  case putfield => exact qw_step_putfield hok hk hd hF
  case arraylength => exact qw_step_arraylength hok hk hd hF
  case iaload => exact qw_step_iaload hok hk hd hF
  case baload => exact qw_step_baload hok hk hd hF
  case aaload => exact qw_step_aaload hok hk hd hF
  case iastore => exact qw_step_iastore hok hk hd hF
  case return_ => exact qw_step_return_ hok hk hd hF
  case ireturn => exact qw_step_ireturn hok hk hd hF
  case lreturn => exact qw_step_lreturn hok hk hd hF
  case areturn => exact qw_step_areturn hok hk hd hF
  case invokevirtual => exact qw_step_invokevirtual hok hk hd hF
  case invokestatic => exact qw_step_invokestatic hok hk hd hF
  all_goals exact False.elim hF
theorem qw_find_mem : ∀ {code : List (Nat × Instr)} {pc : Nat} {q : Nat × Instr}, q ∈ qw_find code pc → q ∈ code
  | [], pc, q, h => by simp [qw_find] at h
  | x :: l, pc, q, h => by
    unfold qw_find at h
    split at h
    · exact h
    · exact List.mem_cons_of_mem _ (qw_find_mem h)
theorem qw_nx_mem {code rest : List (Nat × Instr)} {pc : Nat} (hr : ∀ q ∈ rest, q ∈ code) : ∀ q ∈ qw_nx code rest pc, q ∈ code := by
  intro q h
  unfold qw_nx at h
  split at h
  · exact qw_find_mem h
  · split at h
    · exact hr q h
    · exact qw_find_mem h
/-- RUNS -/
theorem qw_runs (hok : qw_ok tw w K) {code : List (Nat × Instr)} (hcode : ∀ q ∈ code, qw_dec (qw_yb Y) q.1 q.2) {cut : List Nat} : ∀ (n : Nat) (pc : Nat) (rest : List (Nat × Instr)) (ls : qw_L) (st : List Value) (σ : qw_M), (∀ q ∈ rest, q ∈ code) → qw_run tw w K Y code cut Q (qw_Ev tw w K Y Q) n pc rest ls st σ → qw_Ev tw w K Y Q pc ls st σ
  | 0, pc, rest, ls, st, σ, _, h => h
  | n + 1, pc, [], ls, st, σ, _, h => h
  | n + 1, pc, q :: tl, ls, st, σ, hr, h => by
    unfold qw_run at h
    dsimp only at h
    split at h
    · exact h
    · rename_i hb
      have hb := Nat.eq_of_beq_eq_true hb
      have hd := hcode q (hr q List.mem_cons_self)
      rw [hb] at hd
      refine qw_step hok (fun pc' ls' st' σ' h' => ?_) hd h
      split at h'
      · exact h'
      · exact qw_runs hok hcode n pc' _ ls' st' σ' (qw_nx_mem (fun x hx => hr x (List.mem_cons_of_mem _ hx))) h'
/-- fewer locals, in another order -/
theorem qw_Ev.sub {pc : Nat} {ls ls' : qw_L} {st : List Value} {σ : qw_M} (h : qw_Ev tw w K Y Q pc ls' st σ) (hs : ∀ q ∈ ls', q ∈ ls) : qw_Ev tw w K Y Q pc ls st σ := by
  intro p l e s m args below meth c g C0 H locs hP hS lsA hl
  refine h p l e s m args below meth c g C0 H locs hP hS lsA ⟨hl.1, hl.2.1, fun q hq => ?_⟩
  obtain ⟨q0, h1, rfl⟩ := List.mem_map.mp hq
  exact hl.2.2 _ (List.mem_map.mpr ⟨q0, hs q0 h1, rfl⟩)
theorem qw_lma (a : Nat → Nat) : ∀ (av : List Value) (i : Nat), lv_args i (av.map (qw_rv a)) = qw_lm a (lv_args i av)
  | [], i => rfl
  | v :: av, i => by
    show (i, qw_rv a v) :: lv_args (if (qw_rv a v).category = 2 then i + 2 else i + 1) (av.map (qw_rv a)) = (i, qw_rv a v) :: qw_lm a (lv_args (if v.category = 2 then i + 2 else i + 1) av)
    rw [qw_cat, qw_lma a av]
theorem qw_sll (a : Nat → Nat) (av : List Value) : (lg_sl (av.map (qw_rv a))).length = (lg_sl av).length := by
  induction av with
  | nil => rfl
  | cons v av ih =>
    unfold lg_sl at ih ⊢
    simp only [List.map_cons, List.flatMap_cons, List.length_append, qw_cat, ih]
    by_cases h : v.category = 2 <;> simp [h]
/-- A METHOD -/
theorem qw_Mt.of (hcls : (qw_yn Y).cls = qw_kn K) (hpl : plainFor (qw_yn Y) = true) {av : List Value} {σ : qw_M} (hn : Nat.ble (lg_sl av).length (qw_ym Y) = true) (h : qw_Ev tw w K Y Q 0 (lv_args 0 av) [] σ) : qw_Mt tw w Y av σ Q := by
  intro l g hI
  refine va_MetF (cc := qw_yb Y) (maxL := qw_ym Y) (ret := qw_yr Y) hpl rfl ?_
  intro p e s m args below meth c s₁ B hml hv
  obtain ⟨rfl, hP, hK, hE⟩ := hv
  have hown : s.vm.findClass (qw_kn K) = some m.cls := by rw [← hcls]; exact findClass_of_methodNamed B.named
  have hl := lv_entry (av.map (qw_rv g.2.1)) (n := qw_ym Y) (by rw [qw_sll]; exact Nat.le_of_ble_eq_true hn)
  rw [lg_entry_eq]
  rw [qw_lma] at hl
  exact h p l e s m _ below meth c g ⟨B.exec, B.bytes, B.returns, hml, hown, atoms_spec (ws := qw_yc Y :: tw) B.pre, B.notSynchronized, hI, hK, hE⟩ s.heap [] hP va_S.rf _ hl
theorem qw_Z.mono {g : qw_Ad} {Q2 : Option Value → qw_M → Prop} (h : ∀ r σ, Q r σ → Q2 r σ) {a : Array Value} {s t : State} {o : Outcome} (hz : qw_Z w g Y Q a s o t) : qw_Z w g Y Q2 a s o t := by
  obtain ⟨⟨r, σ', h1, h2, h3, h4⟩, h5⟩ := hz
  exact ⟨⟨r, σ', h1, h2, h r σ' h3, h4⟩, h5⟩
end QS4
end
section
/-- a private method of a class that the tables say can be made, by its rows of tables_1 -/
def lw_okq (q : MethodName × Nat) : Prop := (q.1.cls ≠ "java/lang/invoke/MethodHandle" ∧ q.1.cls ≠ "java/lang/invoke/VarHandle") ∧ Cond.instantiable q.1.cls q.2 ∈ tables_1 ∧ Cond.privateMethod q.1 ∈ tables_1 ∧ Cond.instanceMethod q.1 ∈ tables_1
theorem lw_p0 : lw_okq (⟨"ShadowTheatre", "textOf", "(I)LShadowTheatre$Row;"⟩, 9) := ⟨⟨by decide +kernel, by decide +kernel⟩, List.mem_of_getElem? (i := 23) (by decide +kernel), List.mem_of_getElem? (i := 363) (by decide +kernel), List.mem_of_getElem? (i := 364) (by decide +kernel)⟩
theorem lw_p1 : lw_okq (⟨"ShadowTheatre", "parse", "(I)V"⟩, 9) := ⟨⟨by decide +kernel, by decide +kernel⟩, List.mem_of_getElem? (i := 23) (by decide +kernel), List.mem_of_getElem? (i := 378) (by decide +kernel), List.mem_of_getElem? (i := 379) (by decide +kernel)⟩
theorem lw_p2 : lw_okq (⟨"ShadowTheatre$Troupe", "takes", "(III)Z"⟩, 7) := ⟨⟨by decide +kernel, by decide +kernel⟩, List.mem_of_getElem? (i := 60) (by decide +kernel), List.mem_of_getElem? (i := 390) (by decide +kernel), List.mem_of_getElem? (i := 391) (by decide +kernel)⟩
theorem lw_p3 : lw_okq (⟨"ShadowTheatre$Troupe", "takesMark", "(II)Z"⟩, 7) := ⟨⟨by decide +kernel, by decide +kernel⟩, List.mem_of_getElem? (i := 60) (by decide +kernel), List.mem_of_getElem? (i := 479) (by decide +kernel), List.mem_of_getElem? (i := 480) (by decide +kernel)⟩
theorem lw_p4 : lw_okq (⟨"ShadowTheatre$Cues", "takes", "(II)Z"⟩, 4) := ⟨⟨by decide +kernel, by decide +kernel⟩, List.mem_of_getElem? (i := 99) (by decide +kernel), List.mem_of_getElem? (i := 488) (by decide +kernel), List.mem_of_getElem? (i := 489) (by decide +kernel)⟩
theorem lw_p5 : lw_okq (⟨"ShadowTheatre", "sheetOf", "(I)LShadowTheatre$Sheet;"⟩, 9) := ⟨⟨by decide +kernel, by decide +kernel⟩, List.mem_of_getElem? (i := 23) (by decide +kernel), List.mem_of_getElem? (i := 581) (by decide +kernel), List.mem_of_getElem? (i := 582) (by decide +kernel)⟩
theorem lw_p6 : lw_okq (⟨"ShadowTheatre", "find", "(I)I"⟩, 9) := ⟨⟨by decide +kernel, by decide +kernel⟩, List.mem_of_getElem? (i := 23) (by decide +kernel), List.mem_of_getElem? (i := 589) (by decide +kernel), List.mem_of_getElem? (i := 590) (by decide +kernel)⟩
theorem lw_p7 : lw_okq (⟨"ShadowTheatre$Stage", "workOutCover", "(II)I"⟩, 9) := ⟨⟨by decide +kernel, by decide +kernel⟩, List.mem_of_getElem? (i := 158) (by decide +kernel), List.mem_of_getElem? (i := 638) (by decide +kernel), List.mem_of_getElem? (i := 639) (by decide +kernel)⟩
theorem lw_p8 : lw_okq (⟨"ShadowTheatre$Planner", "findEnds", "(II)V"⟩, 6) := ⟨⟨by decide +kernel, by decide +kernel⟩, List.mem_of_getElem? (i := 235) (by decide +kernel), List.mem_of_getElem? (i := 751) (by decide +kernel), List.mem_of_getElem? (i := 752) (by decide +kernel)⟩
theorem lw_p9 : lw_okq (⟨"ShadowTheatre$Planner", "decide", "(III)V"⟩, 6) := ⟨⟨by decide +kernel, by decide +kernel⟩, List.mem_of_getElem? (i := 235) (by decide +kernel), List.mem_of_getElem? (i := 770) (by decide +kernel), List.mem_of_getElem? (i := 771) (by decide +kernel)⟩
theorem lw_p10 : lw_okq (⟨"ShadowTheatre$Planner", "isShownAfter", "(II)Z"⟩, 6) := ⟨⟨by decide +kernel, by decide +kernel⟩, List.mem_of_getElem? (i := 235) (by decide +kernel), List.mem_of_getElem? (i := 801) (by decide +kernel), List.mem_of_getElem? (i := 802) (by decide +kernel)⟩
theorem lw_p11 : lw_okq (⟨"ShadowTheatre$Planner", "isShownWithout", "(II)Z"⟩, 6) := ⟨⟨by decide +kernel, by decide +kernel⟩, List.mem_of_getElem? (i := 235) (by decide +kernel), List.mem_of_getElem? (i := 814) (by decide +kernel), List.mem_of_getElem? (i := 815) (by decide +kernel)⟩
theorem lw_p12 : lw_okq (⟨"ShadowTheatre$Witness", "agrees", "(I)Z"⟩, 4) := ⟨⟨by decide +kernel, by decide +kernel⟩, List.mem_of_getElem? (i := 262) (by decide +kernel), List.mem_of_getElem? (i := 848) (by decide +kernel), List.mem_of_getElem? (i := 849) (by decide +kernel)⟩
theorem lw_p13 : lw_okq (⟨"ShadowTheatre$Witness", "watchedSteps", "()I"⟩, 4) := ⟨⟨by decide +kernel, by decide +kernel⟩, List.mem_of_getElem? (i := 262) (by decide +kernel), List.mem_of_getElem? (i := 852) (by decide +kernel), List.mem_of_getElem? (i := 853) (by decide +kernel)⟩
theorem lw_p14 : lw_okq (⟨"ShadowTheatre$Witness", "agreesIn", "(I)Z"⟩, 4) := ⟨⟨by decide +kernel, by decide +kernel⟩, List.mem_of_getElem? (i := 262) (by decide +kernel), List.mem_of_getElem? (i := 862) (by decide +kernel), List.mem_of_getElem? (i := 863) (by decide +kernel)⟩
theorem lw_p15 : lw_okq (⟨"ShadowTheatre$Witness", "tallyLights", "(II)V"⟩, 4) := ⟨⟨by decide +kernel, by decide +kernel⟩, List.mem_of_getElem? (i := 262) (by decide +kernel), List.mem_of_getElem? (i := 893) (by decide +kernel), List.mem_of_getElem? (i := 894) (by decide +kernel)⟩
def lw_privs_1 : List (MethodName × Nat) := [(⟨"ShadowTheatre", "textOf", "(I)LShadowTheatre$Row;"⟩, 9), (⟨"ShadowTheatre", "parse", "(I)V"⟩, 9), (⟨"ShadowTheatre$Troupe", "takes", "(III)Z"⟩, 7), (⟨"ShadowTheatre$Troupe", "takesMark", "(II)Z"⟩, 7), (⟨"ShadowTheatre$Cues", "takes", "(II)Z"⟩, 4), (⟨"ShadowTheatre", "sheetOf", "(I)LShadowTheatre$Sheet;"⟩, 9), (⟨"ShadowTheatre", "find", "(I)I"⟩, 9), (⟨"ShadowTheatre$Stage", "workOutCover", "(II)I"⟩, 9), (⟨"ShadowTheatre$Planner", "findEnds", "(II)V"⟩, 6), (⟨"ShadowTheatre$Planner", "decide", "(III)V"⟩, 6), (⟨"ShadowTheatre$Planner", "isShownAfter", "(II)Z"⟩, 6), (⟨"ShadowTheatre$Planner", "isShownWithout", "(II)Z"⟩, 6), (⟨"ShadowTheatre$Witness", "agrees", "(I)Z"⟩, 4), (⟨"ShadowTheatre$Witness", "watchedSteps", "()I"⟩, 4), (⟨"ShadowTheatre$Witness", "agreesIn", "(I)Z"⟩, 4), (⟨"ShadowTheatre$Witness", "tallyLights", "(II)V"⟩, 4)]
theorem lw_r1 : ∀ q ∈ lw_privs_1, lw_okq q := List.forall_mem_cons.mpr ⟨lw_p0, List.forall_mem_cons.mpr ⟨lw_p1, List.forall_mem_cons.mpr ⟨lw_p2, List.forall_mem_cons.mpr ⟨lw_p3, List.forall_mem_cons.mpr ⟨lw_p4, List.forall_mem_cons.mpr ⟨lw_p5, List.forall_mem_cons.mpr ⟨lw_p6, List.forall_mem_cons.mpr ⟨lw_p7, List.forall_mem_cons.mpr ⟨lw_p8, List.forall_mem_cons.mpr ⟨lw_p9, List.forall_mem_cons.mpr ⟨lw_p10, List.forall_mem_cons.mpr ⟨lw_p11, List.forall_mem_cons.mpr ⟨lw_p12, List.forall_mem_cons.mpr ⟨lw_p13, List.forall_mem_cons.mpr ⟨lw_p14, List.forall_mem_cons.mpr ⟨lw_p15, fun _ h => absurd h List.not_mem_nil⟩⟩⟩⟩⟩⟩⟩⟩⟩⟩⟩⟩⟩⟩⟩⟩
theorem lw_p16 : lw_okq (⟨"ShadowTheatre$Chance", "looseSteps", "(I)I"⟩, 4) := ⟨⟨by decide +kernel, by decide +kernel⟩, List.mem_of_getElem? (i := 284) (by decide +kernel), List.mem_of_getElem? (i := 909) (by decide +kernel), List.mem_of_getElem? (i := 910) (by decide +kernel)⟩
theorem lw_p17 : lw_okq (⟨"ShadowTheatre$Chance", "waysShown", "(IIII)J"⟩, 4) := ⟨⟨by decide +kernel, by decide +kernel⟩, List.mem_of_getElem? (i := 284) (by decide +kernel), List.mem_of_getElem? (i := 919) (by decide +kernel), List.mem_of_getElem? (i := 920) (by decide +kernel)⟩
theorem lw_p18 : lw_okq (⟨"ShadowTheatre$Chance", "lowerTerms", "()V"⟩, 4) := ⟨⟨by decide +kernel, by decide +kernel⟩, List.mem_of_getElem? (i := 284) (by decide +kernel), List.mem_of_getElem? (i := 928) (by decide +kernel), List.mem_of_getElem? (i := 929) (by decide +kernel)⟩
theorem lw_p19 : lw_okq (⟨"ShadowTheatre$Chance", "draw", "(II)V"⟩, 4) := ⟨⟨by decide +kernel, by decide +kernel⟩, List.mem_of_getElem? (i := 284) (by decide +kernel), List.mem_of_getElem? (i := 941) (by decide +kernel), List.mem_of_getElem? (i := 942) (by decide +kernel)⟩
theorem lw_p20 : lw_okq (⟨"ShadowTheatre", "mixStep", "(JI)J"⟩, 9) := ⟨⟨by decide +kernel, by decide +kernel⟩, List.mem_of_getElem? (i := 23) (by decide +kernel), List.mem_of_getElem? (i := 1025) (by decide +kernel), List.mem_of_getElem? (i := 1026) (by decide +kernel)⟩
theorem lw_p21 : lw_okq (⟨"ShadowTheatre", "mixCell", "(JI)J"⟩, 9) := ⟨⟨by decide +kernel, by decide +kernel⟩, List.mem_of_getElem? (i := 23) (by decide +kernel), List.mem_of_getElem? (i := 1030) (by decide +kernel), List.mem_of_getElem? (i := 1031) (by decide +kernel)⟩
theorem lw_p22 : lw_okq (⟨"ShadowTheatre", "mixFigure", "(JI)J"⟩, 9) := ⟨⟨by decide +kernel, by decide +kernel⟩, List.mem_of_getElem? (i := 23) (by decide +kernel), List.mem_of_getElem? (i := 1037) (by decide +kernel), List.mem_of_getElem? (i := 1038) (by decide +kernel)⟩
theorem lw_p23 : lw_okq (⟨"ShadowTheatre", "mixShown", "(J)J"⟩, 9) := ⟨⟨by decide +kernel, by decide +kernel⟩, List.mem_of_getElem? (i := 23) (by decide +kernel), List.mem_of_getElem? (i := 1042) (by decide +kernel), List.mem_of_getElem? (i := 1043) (by decide +kernel)⟩
theorem lw_p24 : lw_okq (⟨"ShadowTheatre", "mixStepPlans", "(JI)J"⟩, 9) := ⟨⟨by decide +kernel, by decide +kernel⟩, List.mem_of_getElem? (i := 23) (by decide +kernel), List.mem_of_getElem? (i := 1049) (by decide +kernel), List.mem_of_getElem? (i := 1050) (by decide +kernel)⟩
theorem lw_p25 : lw_okq (⟨"ShadowTheatre", "mixRest", "(J)J"⟩, 9) := ⟨⟨by decide +kernel, by decide +kernel⟩, List.mem_of_getElem? (i := 23) (by decide +kernel), List.mem_of_getElem? (i := 1053) (by decide +kernel), List.mem_of_getElem? (i := 1054) (by decide +kernel)⟩
theorem lw_p26 : lw_okq (⟨"ShadowTheatreModel", "finds", "(I)I"⟩, 26) := ⟨⟨by decide +kernel, by decide +kernel⟩, List.mem_of_getElem? (i := 1058) (by decide +kernel), List.mem_of_getElem? (i := 1155) (by decide +kernel), List.mem_of_getElem? (i := 1156) (by decide +kernel)⟩
theorem lw_p27 : lw_okq (⟨"ShadowTheatreModel", "lacks", "(III)I"⟩, 26) := ⟨⟨by decide +kernel, by decide +kernel⟩, List.mem_of_getElem? (i := 1058) (by decide +kernel), List.mem_of_getElem? (i := 1167) (by decide +kernel), List.mem_of_getElem? (i := 1168) (by decide +kernel)⟩
theorem lw_p28 : lw_okq (⟨"ShadowTheatreModel", "readsText", "(I)I"⟩, 26) := ⟨⟨by decide +kernel, by decide +kernel⟩, List.mem_of_getElem? (i := 1058) (by decide +kernel), List.mem_of_getElem? (i := 1203) (by decide +kernel), List.mem_of_getElem? (i := 1204) (by decide +kernel)⟩
theorem lw_p29 : lw_okq (⟨"ShadowTheatreModel", "readsFigures", "()I"⟩, 26) := ⟨⟨by decide +kernel, by decide +kernel⟩, List.mem_of_getElem? (i := 1058) (by decide +kernel), List.mem_of_getElem? (i := 1207) (by decide +kernel), List.mem_of_getElem? (i := 1208) (by decide +kernel)⟩
theorem lw_p30 : lw_okq (⟨"ShadowTheatreModel", "readsCues", "()I"⟩, 26) := ⟨⟨by decide +kernel, by decide +kernel⟩, List.mem_of_getElem? (i := 1058) (by decide +kernel), List.mem_of_getElem? (i := 1220) (by decide +kernel), List.mem_of_getElem? (i := 1221) (by decide +kernel)⟩
theorem lw_p31 : lw_okq (⟨"ShadowTheatreModel", "stills", "(I)I"⟩, 26) := ⟨⟨by decide +kernel, by decide +kernel⟩, List.mem_of_getElem? (i := 1058) (by decide +kernel), List.mem_of_getElem? (i := 1224) (by decide +kernel), List.mem_of_getElem? (i := 1225) (by decide +kernel)⟩
def lw_privs_2 : List (MethodName × Nat) := [(⟨"ShadowTheatre$Chance", "looseSteps", "(I)I"⟩, 4), (⟨"ShadowTheatre$Chance", "waysShown", "(IIII)J"⟩, 4), (⟨"ShadowTheatre$Chance", "lowerTerms", "()V"⟩, 4), (⟨"ShadowTheatre$Chance", "draw", "(II)V"⟩, 4), (⟨"ShadowTheatre", "mixStep", "(JI)J"⟩, 9), (⟨"ShadowTheatre", "mixCell", "(JI)J"⟩, 9), (⟨"ShadowTheatre", "mixFigure", "(JI)J"⟩, 9), (⟨"ShadowTheatre", "mixShown", "(J)J"⟩, 9), (⟨"ShadowTheatre", "mixStepPlans", "(JI)J"⟩, 9), (⟨"ShadowTheatre", "mixRest", "(J)J"⟩, 9), (⟨"ShadowTheatreModel", "finds", "(I)I"⟩, 26), (⟨"ShadowTheatreModel", "lacks", "(III)I"⟩, 26), (⟨"ShadowTheatreModel", "readsText", "(I)I"⟩, 26), (⟨"ShadowTheatreModel", "readsFigures", "()I"⟩, 26), (⟨"ShadowTheatreModel", "readsCues", "()I"⟩, 26), (⟨"ShadowTheatreModel", "stills", "(I)I"⟩, 26)]
theorem lw_r2 : ∀ q ∈ lw_privs_2, lw_okq q := List.forall_mem_cons.mpr ⟨lw_p16, List.forall_mem_cons.mpr ⟨lw_p17, List.forall_mem_cons.mpr ⟨lw_p18, List.forall_mem_cons.mpr ⟨lw_p19, List.forall_mem_cons.mpr ⟨lw_p20, List.forall_mem_cons.mpr ⟨lw_p21, List.forall_mem_cons.mpr ⟨lw_p22, List.forall_mem_cons.mpr ⟨lw_p23, List.forall_mem_cons.mpr ⟨lw_p24, List.forall_mem_cons.mpr ⟨lw_p25, List.forall_mem_cons.mpr ⟨lw_p26, List.forall_mem_cons.mpr ⟨lw_p27, List.forall_mem_cons.mpr ⟨lw_p28, List.forall_mem_cons.mpr ⟨lw_p29, List.forall_mem_cons.mpr ⟨lw_p30, List.forall_mem_cons.mpr ⟨lw_p31, fun _ h => absurd h List.not_mem_nil⟩⟩⟩⟩⟩⟩⟩⟩⟩⟩⟩⟩⟩⟩⟩⟩
theorem lw_p32 : lw_okq (⟨"ShadowTheatreModel", "readsPicture", "()I"⟩, 26) := ⟨⟨by decide +kernel, by decide +kernel⟩, List.mem_of_getElem? (i := 1058) (by decide +kernel), List.mem_of_getElem? (i := 1233) (by decide +kernel), List.mem_of_getElem? (i := 1234) (by decide +kernel)⟩
theorem lw_p33 : lw_okq (⟨"ShadowTheatreModel", "blank", "(I)I"⟩, 26) := ⟨⟨by decide +kernel, by decide +kernel⟩, List.mem_of_getElem? (i := 1058) (by decide +kernel), List.mem_of_getElem? (i := 1237) (by decide +kernel), List.mem_of_getElem? (i := 1238) (by decide +kernel)⟩
theorem lw_p34 : lw_okq (⟨"ShadowTheatreModel", "isFigure", "(I)Z"⟩, 26) := ⟨⟨by decide +kernel, by decide +kernel⟩, List.mem_of_getElem? (i := 1058) (by decide +kernel), List.mem_of_getElem? (i := 1247) (by decide +kernel), List.mem_of_getElem? (i := 1248) (by decide +kernel)⟩
theorem lw_p35 : lw_okq (⟨"ShadowTheatreModel", "figureBy", "(II)I"⟩, 26) := ⟨⟨by decide +kernel, by decide +kernel⟩, List.mem_of_getElem? (i := 1058) (by decide +kernel), List.mem_of_getElem? (i := 1252) (by decide +kernel), List.mem_of_getElem? (i := 1253) (by decide +kernel)⟩
theorem lw_p36 : lw_okq (⟨"ShadowTheatreModel", "cueBy", "(II)I"⟩, 26) := ⟨⟨by decide +kernel, by decide +kernel⟩, List.mem_of_getElem? (i := 1058) (by decide +kernel), List.mem_of_getElem? (i := 1267) (by decide +kernel), List.mem_of_getElem? (i := 1268) (by decide +kernel)⟩
theorem lw_p37 : lw_okq (⟨"ShadowTheatreModel", "find", "()V"⟩, 26) := ⟨⟨by decide +kernel, by decide +kernel⟩, List.mem_of_getElem? (i := 1058) (by decide +kernel), List.mem_of_getElem? (i := 1300) (by decide +kernel), List.mem_of_getElem? (i := 1301) (by decide +kernel)⟩
theorem lw_p38 : lw_okq (⟨"ShadowTheatreModel", "lives", "()V"⟩, 26) := ⟨⟨by decide +kernel, by decide +kernel⟩, List.mem_of_getElem? (i := 1058) (by decide +kernel), List.mem_of_getElem? (i := 1304) (by decide +kernel), List.mem_of_getElem? (i := 1305) (by decide +kernel)⟩
theorem lw_p39 : lw_okq (⟨"ShadowTheatreModel", "goes", "(II)V"⟩, 26) := ⟨⟨by decide +kernel, by decide +kernel⟩, List.mem_of_getElem? (i := 1058) (by decide +kernel), List.mem_of_getElem? (i := 1311) (by decide +kernel), List.mem_of_getElem? (i := 1312) (by decide +kernel)⟩
theorem lw_p40 : lw_okq (⟨"ShadowTheatreModel", "keeps", "(I)V"⟩, 26) := ⟨⟨by decide +kernel, by decide +kernel⟩, List.mem_of_getElem? (i := 1058) (by decide +kernel), List.mem_of_getElem? (i := 1321) (by decide +kernel), List.mem_of_getElem? (i := 1322) (by decide +kernel)⟩
theorem lw_p41 : lw_okq (⟨"ShadowTheatreModel", "lightOf", "(II)I"⟩, 26) := ⟨⟨by decide +kernel, by decide +kernel⟩, List.mem_of_getElem? (i := 1058) (by decide +kernel), List.mem_of_getElem? (i := 1325) (by decide +kernel), List.mem_of_getElem? (i := 1326) (by decide +kernel)⟩
theorem lw_p42 : lw_okq (⟨"ShadowTheatreModel", "isOut", "(I)Z"⟩, 26) := ⟨⟨by decide +kernel, by decide +kernel⟩, List.mem_of_getElem? (i := 1058) (by decide +kernel), List.mem_of_getElem? (i := 1329) (by decide +kernel), List.mem_of_getElem? (i := 1330) (by decide +kernel)⟩
theorem lw_p43 : lw_okq (⟨"ShadowTheatreModel", "isOver", "(III)Z"⟩, 26) := ⟨⟨by decide +kernel, by decide +kernel⟩, List.mem_of_getElem? (i := 1058) (by decide +kernel), List.mem_of_getElem? (i := 1333) (by decide +kernel), List.mem_of_getElem? (i := 1334) (by decide +kernel)⟩
theorem lw_p44 : lw_okq (⟨"ShadowTheatreModel", "coversOf", "(II)I"⟩, 26) := ⟨⟨by decide +kernel, by decide +kernel⟩, List.mem_of_getElem? (i := 1058) (by decide +kernel), List.mem_of_getElem? (i := 1341) (by decide +kernel), List.mem_of_getElem? (i := 1342) (by decide +kernel)⟩
theorem lw_p45 : lw_okq (⟨"ShadowTheatreModel", "atOf", "(III)I"⟩, 26) := ⟨⟨by decide +kernel, by decide +kernel⟩, List.mem_of_getElem? (i := 1058) (by decide +kernel), List.mem_of_getElem? (i := 1349) (by decide +kernel), List.mem_of_getElem? (i := 1350) (by decide +kernel)⟩
theorem lw_p46 : lw_okq (⟨"ShadowTheatreModel", "falseOf", "(I)I"⟩, 26) := ⟨⟨by decide +kernel, by decide +kernel⟩, List.mem_of_getElem? (i := 1058) (by decide +kernel), List.mem_of_getElem? (i := 1357) (by decide +kernel), List.mem_of_getElem? (i := 1358) (by decide +kernel)⟩
theorem lw_p47 : lw_okq (⟨"ShadowTheatreModel", "darkOf", "(I)I"⟩, 26) := ⟨⟨by decide +kernel, by decide +kernel⟩, List.mem_of_getElem? (i := 1058) (by decide +kernel), List.mem_of_getElem? (i := 1361) (by decide +kernel), List.mem_of_getElem? (i := 1362) (by decide +kernel)⟩
def lw_privs_3 : List (MethodName × Nat) := [(⟨"ShadowTheatreModel", "readsPicture", "()I"⟩, 26), (⟨"ShadowTheatreModel", "blank", "(I)I"⟩, 26), (⟨"ShadowTheatreModel", "isFigure", "(I)Z"⟩, 26), (⟨"ShadowTheatreModel", "figureBy", "(II)I"⟩, 26), (⟨"ShadowTheatreModel", "cueBy", "(II)I"⟩, 26), (⟨"ShadowTheatreModel", "find", "()V"⟩, 26), (⟨"ShadowTheatreModel", "lives", "()V"⟩, 26), (⟨"ShadowTheatreModel", "goes", "(II)V"⟩, 26), (⟨"ShadowTheatreModel", "keeps", "(I)V"⟩, 26), (⟨"ShadowTheatreModel", "lightOf", "(II)I"⟩, 26), (⟨"ShadowTheatreModel", "isOut", "(I)Z"⟩, 26), (⟨"ShadowTheatreModel", "isOver", "(III)Z"⟩, 26), (⟨"ShadowTheatreModel", "coversOf", "(II)I"⟩, 26), (⟨"ShadowTheatreModel", "atOf", "(III)I"⟩, 26), (⟨"ShadowTheatreModel", "falseOf", "(I)I"⟩, 26), (⟨"ShadowTheatreModel", "darkOf", "(I)I"⟩, 26)]
theorem lw_r3 : ∀ q ∈ lw_privs_3, lw_okq q := List.forall_mem_cons.mpr ⟨lw_p32, List.forall_mem_cons.mpr ⟨lw_p33, List.forall_mem_cons.mpr ⟨lw_p34, List.forall_mem_cons.mpr ⟨lw_p35, List.forall_mem_cons.mpr ⟨lw_p36, List.forall_mem_cons.mpr ⟨lw_p37, List.forall_mem_cons.mpr ⟨lw_p38, List.forall_mem_cons.mpr ⟨lw_p39, List.forall_mem_cons.mpr ⟨lw_p40, List.forall_mem_cons.mpr ⟨lw_p41, List.forall_mem_cons.mpr ⟨lw_p42, List.forall_mem_cons.mpr ⟨lw_p43, List.forall_mem_cons.mpr ⟨lw_p44, List.forall_mem_cons.mpr ⟨lw_p45, List.forall_mem_cons.mpr ⟨lw_p46, List.forall_mem_cons.mpr ⟨lw_p47, fun _ h => absurd h List.not_mem_nil⟩⟩⟩⟩⟩⟩⟩⟩⟩⟩⟩⟩⟩⟩⟩⟩
theorem lw_p48 : lw_okq (⟨"ShadowTheatreModel", "shownBy", "(I)I"⟩, 26) := ⟨⟨by decide +kernel, by decide +kernel⟩, List.mem_of_getElem? (i := 1058) (by decide +kernel), List.mem_of_getElem? (i := 1369) (by decide +kernel), List.mem_of_getElem? (i := 1370) (by decide +kernel)⟩
theorem lw_p49 : lw_okq (⟨"ShadowTheatreModel", "isShown", "(I)Z"⟩, 26) := ⟨⟨by decide +kernel, by decide +kernel⟩, List.mem_of_getElem? (i := 1058) (by decide +kernel), List.mem_of_getElem? (i := 1373) (by decide +kernel), List.mem_of_getElem? (i := 1374) (by decide +kernel)⟩
theorem lw_p50 : lw_okq (⟨"ShadowTheatreModel", "cellsTold", "()I"⟩, 26) := ⟨⟨by decide +kernel, by decide +kernel⟩, List.mem_of_getElem? (i := 1058) (by decide +kernel), List.mem_of_getElem? (i := 1377) (by decide +kernel), List.mem_of_getElem? (i := 1378) (by decide +kernel)⟩
theorem lw_p51 : lw_okq (⟨"ShadowTheatreModel", "touchedBy", "(I)I"⟩, 26) := ⟨⟨by decide +kernel, by decide +kernel⟩, List.mem_of_getElem? (i := 1058) (by decide +kernel), List.mem_of_getElem? (i := 1385) (by decide +kernel), List.mem_of_getElem? (i := 1386) (by decide +kernel)⟩
theorem lw_p52 : lw_okq (⟨"ShadowTheatreModel", "isTouching", "(III)Z"⟩, 26) := ⟨⟨by decide +kernel, by decide +kernel⟩, List.mem_of_getElem? (i := 1058) (by decide +kernel), List.mem_of_getElem? (i := 1389) (by decide +kernel), List.mem_of_getElem? (i := 1390) (by decide +kernel)⟩
theorem lw_p53 : lw_okq (⟨"ShadowTheatreModel", "darkestNow", "()I"⟩, 26) := ⟨⟨by decide +kernel, by decide +kernel⟩, List.mem_of_getElem? (i := 1058) (by decide +kernel), List.mem_of_getElem? (i := 1397) (by decide +kernel), List.mem_of_getElem? (i := 1398) (by decide +kernel)⟩
theorem lw_p54 : lw_okq (⟨"ShadowTheatreModel", "hangOf", "(III)I"⟩, 26) := ⟨⟨by decide +kernel, by decide +kernel⟩, List.mem_of_getElem? (i := 1058) (by decide +kernel), List.mem_of_getElem? (i := 1405) (by decide +kernel), List.mem_of_getElem? (i := 1406) (by decide +kernel)⟩
theorem lw_p55 : lw_okq (⟨"ShadowTheatreModel", "shiftOf", "(II)I"⟩, 26) := ⟨⟨by decide +kernel, by decide +kernel⟩, List.mem_of_getElem? (i := 1058) (by decide +kernel), List.mem_of_getElem? (i := 1413) (by decide +kernel), List.mem_of_getElem? (i := 1414) (by decide +kernel)⟩
theorem lw_p56 : lw_okq (⟨"ShadowTheatreModel", "moreOf", "(I)I"⟩, 26) := ⟨⟨by decide +kernel, by decide +kernel⟩, List.mem_of_getElem? (i := 1058) (by decide +kernel), List.mem_of_getElem? (i := 1422) (by decide +kernel), List.mem_of_getElem? (i := 1423) (by decide +kernel)⟩
theorem lw_p57 : lw_okq (⟨"ShadowTheatreModel", "isShownBy", "(II)Z"⟩, 26) := ⟨⟨by decide +kernel, by decide +kernel⟩, List.mem_of_getElem? (i := 1058) (by decide +kernel), List.mem_of_getElem? (i := 1426) (by decide +kernel), List.mem_of_getElem? (i := 1427) (by decide +kernel)⟩
theorem lw_p58 : lw_okq (⟨"ShadowTheatreModel", "leaveOf", "(II)I"⟩, 26) := ⟨⟨by decide +kernel, by decide +kernel⟩, List.mem_of_getElem? (i := 1058) (by decide +kernel), List.mem_of_getElem? (i := 1434) (by decide +kernel), List.mem_of_getElem? (i := 1435) (by decide +kernel)⟩
theorem lw_p59 : lw_okq (⟨"ShadowTheatreModel", "isShownWithout", "(II)Z"⟩, 26) := ⟨⟨by decide +kernel, by decide +kernel⟩, List.mem_of_getElem? (i := 1058) (by decide +kernel), List.mem_of_getElem? (i := 1438) (by decide +kernel), List.mem_of_getElem? (i := 1439) (by decide +kernel)⟩
theorem lw_p60 : lw_okq (⟨"ShadowTheatreModel", "neverNow", "()I"⟩, 26) := ⟨⟨by decide +kernel, by decide +kernel⟩, List.mem_of_getElem? (i := 1058) (by decide +kernel), List.mem_of_getElem? (i := 1455) (by decide +kernel), List.mem_of_getElem? (i := 1456) (by decide +kernel)⟩
theorem lw_p61 : lw_okq (⟨"ShadowTheatreModel", "isSeen", "()Z"⟩, 26) := ⟨⟨by decide +kernel, by decide +kernel⟩, List.mem_of_getElem? (i := 1058) (by decide +kernel), List.mem_of_getElem? (i := 1459) (by decide +kernel), List.mem_of_getElem? (i := 1460) (by decide +kernel)⟩
theorem lw_p62 : lw_okq (⟨"ShadowTheatreModel", "wasOf", "(II)I"⟩, 26) := ⟨⟨by decide +kernel, by decide +kernel⟩, List.mem_of_getElem? (i := 1058) (by decide +kernel), List.mem_of_getElem? (i := 1467) (by decide +kernel), List.mem_of_getElem? (i := 1468) (by decide +kernel)⟩
theorem lw_p63 : lw_okq (⟨"ShadowTheatreModel", "colourBy", "(I)I"⟩, 26) := ⟨⟨by decide +kernel, by decide +kernel⟩, List.mem_of_getElem? (i := 1058) (by decide +kernel), List.mem_of_getElem? (i := 1471) (by decide +kernel), List.mem_of_getElem? (i := 1472) (by decide +kernel)⟩
def lw_privs_4 : List (MethodName × Nat) := [(⟨"ShadowTheatreModel", "shownBy", "(I)I"⟩, 26), (⟨"ShadowTheatreModel", "isShown", "(I)Z"⟩, 26), (⟨"ShadowTheatreModel", "cellsTold", "()I"⟩, 26), (⟨"ShadowTheatreModel", "touchedBy", "(I)I"⟩, 26), (⟨"ShadowTheatreModel", "isTouching", "(III)Z"⟩, 26), (⟨"ShadowTheatreModel", "darkestNow", "()I"⟩, 26), (⟨"ShadowTheatreModel", "hangOf", "(III)I"⟩, 26), (⟨"ShadowTheatreModel", "shiftOf", "(II)I"⟩, 26), (⟨"ShadowTheatreModel", "moreOf", "(I)I"⟩, 26), (⟨"ShadowTheatreModel", "isShownBy", "(II)Z"⟩, 26), (⟨"ShadowTheatreModel", "leaveOf", "(II)I"⟩, 26), (⟨"ShadowTheatreModel", "isShownWithout", "(II)Z"⟩, 26), (⟨"ShadowTheatreModel", "neverNow", "()I"⟩, 26), (⟨"ShadowTheatreModel", "isSeen", "()Z"⟩, 26), (⟨"ShadowTheatreModel", "wasOf", "(II)I"⟩, 26), (⟨"ShadowTheatreModel", "colourBy", "(I)I"⟩, 26)]
theorem lw_r4 : ∀ q ∈ lw_privs_4, lw_okq q := List.forall_mem_cons.mpr ⟨lw_p48, List.forall_mem_cons.mpr ⟨lw_p49, List.forall_mem_cons.mpr ⟨lw_p50, List.forall_mem_cons.mpr ⟨lw_p51, List.forall_mem_cons.mpr ⟨lw_p52, List.forall_mem_cons.mpr ⟨lw_p53, List.forall_mem_cons.mpr ⟨lw_p54, List.forall_mem_cons.mpr ⟨lw_p55, List.forall_mem_cons.mpr ⟨lw_p56, List.forall_mem_cons.mpr ⟨lw_p57, List.forall_mem_cons.mpr ⟨lw_p58, List.forall_mem_cons.mpr ⟨lw_p59, List.forall_mem_cons.mpr ⟨lw_p60, List.forall_mem_cons.mpr ⟨lw_p61, List.forall_mem_cons.mpr ⟨lw_p62, List.forall_mem_cons.mpr ⟨lw_p63, fun _ h => absurd h List.not_mem_nil⟩⟩⟩⟩⟩⟩⟩⟩⟩⟩⟩⟩⟩⟩⟩⟩
theorem lw_p64 : lw_okq (⟨"ShadowTheatreModel", "deepOf", "(I)I"⟩, 26) := ⟨⟨by decide +kernel, by decide +kernel⟩, List.mem_of_getElem? (i := 1058) (by decide +kernel), List.mem_of_getElem? (i := 1475) (by decide +kernel), List.mem_of_getElem? (i := 1476) (by decide +kernel)⟩
theorem lw_p65 : lw_okq (⟨"ShadowTheatreModel", "askOf", "(I)I"⟩, 26) := ⟨⟨by decide +kernel, by decide +kernel⟩, List.mem_of_getElem? (i := 1058) (by decide +kernel), List.mem_of_getElem? (i := 1483) (by decide +kernel), List.mem_of_getElem? (i := 1484) (by decide +kernel)⟩
theorem lw_p66 : lw_okq (⟨"ShadowTheatreModel", "stumbleOf", "(IIII)J"⟩, 26) := ⟨⟨by decide +kernel, by decide +kernel⟩, List.mem_of_getElem? (i := 1058) (by decide +kernel), List.mem_of_getElem? (i := 1492) (by decide +kernel), List.mem_of_getElem? (i := 1493) (by decide +kernel)⟩
theorem lw_p67 : lw_okq (⟨"ShadowTheatreModel", "playOf", "(III)I"⟩, 26) := ⟨⟨by decide +kernel, by decide +kernel⟩, List.mem_of_getElem? (i := 1058) (by decide +kernel), List.mem_of_getElem? (i := 1508) (by decide +kernel), List.mem_of_getElem? (i := 1509) (by decide +kernel)⟩
theorem lw_p68 : lw_okq (⟨"ShadowTheatreModel", "lot", "(I)I"⟩, 26) := ⟨⟨by decide +kernel, by decide +kernel⟩, List.mem_of_getElem? (i := 1058) (by decide +kernel), List.mem_of_getElem? (i := 1512) (by decide +kernel), List.mem_of_getElem? (i := 1513) (by decide +kernel)⟩
theorem lw_p69 : lw_okq (⟨"ShadowTheatreModel", "cuesTold", "()I"⟩, 26) := ⟨⟨by decide +kernel, by decide +kernel⟩, List.mem_of_getElem? (i := 1058) (by decide +kernel), List.mem_of_getElem? (i := 1525) (by decide +kernel), List.mem_of_getElem? (i := 1526) (by decide +kernel)⟩
theorem lw_p70 : lw_okq (⟨"ShadowTheatreModel", "tellsFigure", "(JI)J"⟩, 26) := ⟨⟨by decide +kernel, by decide +kernel⟩, List.mem_of_getElem? (i := 1058) (by decide +kernel), List.mem_of_getElem? (i := 1535) (by decide +kernel), List.mem_of_getElem? (i := 1536) (by decide +kernel)⟩
theorem lw_p71 : lw_okq (⟨"ShadowTheatreModel", "tellsAt", "(JII)J"⟩, 26) := ⟨⟨by decide +kernel, by decide +kernel⟩, List.mem_of_getElem? (i := 1058) (by decide +kernel), List.mem_of_getElem? (i := 1539) (by decide +kernel), List.mem_of_getElem? (i := 1540) (by decide +kernel)⟩
theorem lw_p72 : lw_okq (⟨"ShadowTheatreModel", "tellsStep", "(JI)J"⟩, 26) := ⟨⟨by decide +kernel, by decide +kernel⟩, List.mem_of_getElem? (i := 1058) (by decide +kernel), List.mem_of_getElem? (i := 1543) (by decide +kernel), List.mem_of_getElem? (i := 1544) (by decide +kernel)⟩
def lw_privs_5 : List (MethodName × Nat) := [(⟨"ShadowTheatreModel", "deepOf", "(I)I"⟩, 26), (⟨"ShadowTheatreModel", "askOf", "(I)I"⟩, 26), (⟨"ShadowTheatreModel", "stumbleOf", "(IIII)J"⟩, 26), (⟨"ShadowTheatreModel", "playOf", "(III)I"⟩, 26), (⟨"ShadowTheatreModel", "lot", "(I)I"⟩, 26), (⟨"ShadowTheatreModel", "cuesTold", "()I"⟩, 26), (⟨"ShadowTheatreModel", "tellsFigure", "(JI)J"⟩, 26), (⟨"ShadowTheatreModel", "tellsAt", "(JII)J"⟩, 26), (⟨"ShadowTheatreModel", "tellsStep", "(JI)J"⟩, 26)]
theorem lw_r5 : ∀ q ∈ lw_privs_5, lw_okq q := List.forall_mem_cons.mpr ⟨lw_p64, List.forall_mem_cons.mpr ⟨lw_p65, List.forall_mem_cons.mpr ⟨lw_p66, List.forall_mem_cons.mpr ⟨lw_p67, List.forall_mem_cons.mpr ⟨lw_p68, List.forall_mem_cons.mpr ⟨lw_p69, List.forall_mem_cons.mpr ⟨lw_p70, List.forall_mem_cons.mpr ⟨lw_p71, List.forall_mem_cons.mpr ⟨lw_p72, fun _ h => absurd h List.not_mem_nil⟩⟩⟩⟩⟩⟩⟩⟩⟩
def lw_privs : List (MethodName × Nat) := lw_privs_1 ++ (lw_privs_2 ++ (lw_privs_3 ++ (lw_privs_4 ++ (lw_privs_5))))
def lw_tbl : List Cond := k2_sels lw_privs ++ tables_1
theorem lw_privs_ok : ∀ q ∈ lw_privs, lw_okq q := by
  show ∀ q ∈ lw_privs_1 ++ (lw_privs_2 ++ (lw_privs_3 ++ (lw_privs_4 ++ (lw_privs_5)))), lw_okq q
  exact List.forall_mem_append.mpr ⟨lw_r1, List.forall_mem_append.mpr ⟨lw_r2, List.forall_mem_append.mpr ⟨lw_r3, List.forall_mem_append.mpr ⟨lw_r4, lw_r5⟩⟩⟩⟩

/-- the words that a callee may be given -/
def qw_tw : List Cond := lw_tbl.filter goodWord
theorem qw_tw_good : qw_good qw_tw := fun x hx => good_of_word (List.mem_filter.mp hx).2
theorem qw_in0 {x : Cond} (i : Nat) (h : (k2_sels lw_privs)[i]? = some x) (hg : goodWord x = true) : x ∈ qw_tw := List.mem_filter.mpr ⟨List.mem_append_left _ (List.mem_of_getElem? h), hg⟩
theorem qw_in1 {x : Cond} (i : Nat) (h : tables_1_1[i]? = some x) (hg : goodWord x = true) : x ∈ qw_tw := List.mem_filter.mpr ⟨List.mem_append_right _ (List.mem_append_left _ (List.mem_of_getElem? h)), hg⟩
theorem qw_in2 {x : Cond} (i : Nat) (h : tables_1_2[i]? = some x) (hg : goodWord x = true) : x ∈ qw_tw := List.mem_filter.mpr ⟨List.mem_append_right _ (List.mem_append_right _ (List.mem_append_left _ (List.mem_of_getElem? h))), hg⟩
theorem qw_in3 {x : Cond} (i : Nat) (h : tables_1_3[i]? = some x) (hg : goodWord x = true) : x ∈ qw_tw := List.mem_filter.mpr ⟨List.mem_append_right _ (List.mem_append_right _ (List.mem_append_right _ (List.mem_append_left _ (List.mem_of_getElem? h)))), hg⟩
theorem qw_in4 {x : Cond} (i : Nat) (h : tables_1_4[i]? = some x) (hg : goodWord x = true) : x ∈ qw_tw := List.mem_filter.mpr ⟨List.mem_append_right _ (List.mem_append_right _ (List.mem_append_right _ (List.mem_append_right _ (List.mem_append_left _ (List.mem_of_getElem? h))))), hg⟩
theorem qw_in5 {x : Cond} (i : Nat) (h : tables_1_5[i]? = some x) (hg : goodWord x = true) : x ∈ qw_tw := List.mem_filter.mpr ⟨List.mem_append_right _ (List.mem_append_right _ (List.mem_append_right _ (List.mem_append_right _ (List.mem_append_right _ (List.mem_append_left _ (List.mem_of_getElem? h)))))), hg⟩
theorem qw_in6 {x : Cond} (i : Nat) (h : tables_1_6[i]? = some x) (hg : goodWord x = true) : x ∈ qw_tw := List.mem_filter.mpr ⟨List.mem_append_right _ (List.mem_append_right _ (List.mem_append_right _ (List.mem_append_right _ (List.mem_append_right _ (List.mem_append_right _ (List.mem_append_left _ (List.mem_of_getElem? h))))))), hg⟩
theorem qw_in7 {x : Cond} (i : Nat) (h : tables_1_7[i]? = some x) (hg : goodWord x = true) : x ∈ qw_tw := List.mem_filter.mpr ⟨List.mem_append_right _ (List.mem_append_right _ (List.mem_append_right _ (List.mem_append_right _ (List.mem_append_right _ (List.mem_append_right _ (List.mem_append_right _ (List.mem_of_getElem? h))))))), hg⟩
theorem qw_inS {ws : List Cond} (h : ws.all (fun x => decide (x ∈ lw_tbl) && goodWord x) = true) : ∀ x ∈ ws, x ∈ qw_tw := by
  intro x hx
  have h1 := List.all_eq_true.mp h x hx
  simp only [Bool.and_eq_true, decide_eq_true_eq] at h1
  exact List.mem_filter.mpr ⟨h1.1, h1.2⟩
theorem tz_0 : Jvm.Cond.selects "ShadowTheatre" ({ cls := "ShadowTheatre", name := "textOf", desc := "(I)LShadowTheatre$Row;" } : Jvm.MethodName) ({ cls := "ShadowTheatre", name := "textOf", desc := "(I)LShadowTheatre$Row;" } : Jvm.MethodName) ∈ qw_tw := qw_in0 0 rfl rfl
theorem tz_1 : Jvm.Cond.selects "ShadowTheatre" ({ cls := "ShadowTheatre", name := "parse", desc := "(I)V" } : Jvm.MethodName) ({ cls := "ShadowTheatre", name := "parse", desc := "(I)V" } : Jvm.MethodName) ∈ qw_tw := qw_in0 1 rfl rfl
theorem tz_2 : Jvm.Cond.selects "ShadowTheatre$Troupe" ({ cls := "ShadowTheatre$Troupe", name := "takes", desc := "(III)Z" } : Jvm.MethodName) ({ cls := "ShadowTheatre$Troupe", name := "takes", desc := "(III)Z" } : Jvm.MethodName) ∈ qw_tw := qw_in0 2 rfl rfl
theorem tz_3 : Jvm.Cond.selects "ShadowTheatre$Troupe" ({ cls := "ShadowTheatre$Troupe", name := "takesMark", desc := "(II)Z" } : Jvm.MethodName) ({ cls := "ShadowTheatre$Troupe", name := "takesMark", desc := "(II)Z" } : Jvm.MethodName) ∈ qw_tw := qw_in0 3 rfl rfl
theorem tz_4 : Jvm.Cond.selects "ShadowTheatre$Cues" ({ cls := "ShadowTheatre$Cues", name := "takes", desc := "(II)Z" } : Jvm.MethodName) ({ cls := "ShadowTheatre$Cues", name := "takes", desc := "(II)Z" } : Jvm.MethodName) ∈ qw_tw := qw_in0 4 rfl rfl
theorem tz_5 : Jvm.Cond.selects "ShadowTheatre" ({ cls := "ShadowTheatre", name := "sheetOf", desc := "(I)LShadowTheatre$Sheet;" } : Jvm.MethodName) ({ cls := "ShadowTheatre", name := "sheetOf", desc := "(I)LShadowTheatre$Sheet;" } : Jvm.MethodName) ∈ qw_tw := qw_in0 5 rfl rfl
theorem tz_6 : Jvm.Cond.selects "ShadowTheatre" ({ cls := "ShadowTheatre", name := "find", desc := "(I)I" } : Jvm.MethodName) ({ cls := "ShadowTheatre", name := "find", desc := "(I)I" } : Jvm.MethodName) ∈ qw_tw := qw_in0 6 rfl rfl
theorem tz_7 : Jvm.Cond.selects "ShadowTheatre$Stage" ({ cls := "ShadowTheatre$Stage", name := "workOutCover", desc := "(II)I" } : Jvm.MethodName) ({ cls := "ShadowTheatre$Stage", name := "workOutCover", desc := "(II)I" } : Jvm.MethodName) ∈ qw_tw := qw_in0 7 rfl rfl
theorem tz_8 : Jvm.Cond.selects "ShadowTheatre$Planner" ({ cls := "ShadowTheatre$Planner", name := "findEnds", desc := "(II)V" } : Jvm.MethodName) ({ cls := "ShadowTheatre$Planner", name := "findEnds", desc := "(II)V" } : Jvm.MethodName) ∈ qw_tw := qw_in0 8 rfl rfl
theorem tz_9 : Jvm.Cond.selects "ShadowTheatre$Planner" ({ cls := "ShadowTheatre$Planner", name := "decide", desc := "(III)V" } : Jvm.MethodName) ({ cls := "ShadowTheatre$Planner", name := "decide", desc := "(III)V" } : Jvm.MethodName) ∈ qw_tw := qw_in0 9 rfl rfl
theorem tz_10 : Jvm.Cond.selects "ShadowTheatre$Planner" ({ cls := "ShadowTheatre$Planner", name := "isShownAfter", desc := "(II)Z" } : Jvm.MethodName) ({ cls := "ShadowTheatre$Planner", name := "isShownAfter", desc := "(II)Z" } : Jvm.MethodName) ∈ qw_tw := qw_in0 10 rfl rfl
theorem tz_11 : Jvm.Cond.selects "ShadowTheatre$Planner" ({ cls := "ShadowTheatre$Planner", name := "isShownWithout", desc := "(II)Z" } : Jvm.MethodName) ({ cls := "ShadowTheatre$Planner", name := "isShownWithout", desc := "(II)Z" } : Jvm.MethodName) ∈ qw_tw := qw_in0 11 rfl rfl
theorem tz_12 : Jvm.Cond.selects "ShadowTheatre$Witness" ({ cls := "ShadowTheatre$Witness", name := "agrees", desc := "(I)Z" } : Jvm.MethodName) ({ cls := "ShadowTheatre$Witness", name := "agrees", desc := "(I)Z" } : Jvm.MethodName) ∈ qw_tw := qw_in0 12 rfl rfl
theorem tz_13 : Jvm.Cond.selects "ShadowTheatre$Witness" ({ cls := "ShadowTheatre$Witness", name := "watchedSteps", desc := "()I" } : Jvm.MethodName) ({ cls := "ShadowTheatre$Witness", name := "watchedSteps", desc := "()I" } : Jvm.MethodName) ∈ qw_tw := qw_in0 13 rfl rfl
theorem tz_14 : Jvm.Cond.selects "ShadowTheatre$Witness" ({ cls := "ShadowTheatre$Witness", name := "agreesIn", desc := "(I)Z" } : Jvm.MethodName) ({ cls := "ShadowTheatre$Witness", name := "agreesIn", desc := "(I)Z" } : Jvm.MethodName) ∈ qw_tw := qw_in0 14 rfl rfl
theorem tz_15 : Jvm.Cond.selects "ShadowTheatre$Witness" ({ cls := "ShadowTheatre$Witness", name := "tallyLights", desc := "(II)V" } : Jvm.MethodName) ({ cls := "ShadowTheatre$Witness", name := "tallyLights", desc := "(II)V" } : Jvm.MethodName) ∈ qw_tw := qw_in0 15 rfl rfl
theorem tz_16 : Jvm.Cond.selects "ShadowTheatre$Chance" ({ cls := "ShadowTheatre$Chance", name := "looseSteps", desc := "(I)I" } : Jvm.MethodName) ({ cls := "ShadowTheatre$Chance", name := "looseSteps", desc := "(I)I" } : Jvm.MethodName) ∈ qw_tw := qw_in0 16 rfl rfl
theorem tz_17 : Jvm.Cond.selects "ShadowTheatre$Chance" ({ cls := "ShadowTheatre$Chance", name := "waysShown", desc := "(IIII)J" } : Jvm.MethodName) ({ cls := "ShadowTheatre$Chance", name := "waysShown", desc := "(IIII)J" } : Jvm.MethodName) ∈ qw_tw := qw_in0 17 rfl rfl
theorem tz_18 : Jvm.Cond.selects "ShadowTheatre$Chance" ({ cls := "ShadowTheatre$Chance", name := "lowerTerms", desc := "()V" } : Jvm.MethodName) ({ cls := "ShadowTheatre$Chance", name := "lowerTerms", desc := "()V" } : Jvm.MethodName) ∈ qw_tw := qw_in0 18 rfl rfl
theorem tz_19 : Jvm.Cond.selects "ShadowTheatre$Chance" ({ cls := "ShadowTheatre$Chance", name := "draw", desc := "(II)V" } : Jvm.MethodName) ({ cls := "ShadowTheatre$Chance", name := "draw", desc := "(II)V" } : Jvm.MethodName) ∈ qw_tw := qw_in0 19 rfl rfl
theorem tz_20 : Jvm.Cond.selects "ShadowTheatre" ({ cls := "ShadowTheatre", name := "mixStep", desc := "(JI)J" } : Jvm.MethodName) ({ cls := "ShadowTheatre", name := "mixStep", desc := "(JI)J" } : Jvm.MethodName) ∈ qw_tw := qw_in0 20 rfl rfl
theorem tz_21 : Jvm.Cond.selects "ShadowTheatre" ({ cls := "ShadowTheatre", name := "mixCell", desc := "(JI)J" } : Jvm.MethodName) ({ cls := "ShadowTheatre", name := "mixCell", desc := "(JI)J" } : Jvm.MethodName) ∈ qw_tw := qw_in0 21 rfl rfl
theorem tz_22 : Jvm.Cond.selects "ShadowTheatre" ({ cls := "ShadowTheatre", name := "mixFigure", desc := "(JI)J" } : Jvm.MethodName) ({ cls := "ShadowTheatre", name := "mixFigure", desc := "(JI)J" } : Jvm.MethodName) ∈ qw_tw := qw_in0 22 rfl rfl
theorem tz_23 : Jvm.Cond.selects "ShadowTheatre" ({ cls := "ShadowTheatre", name := "mixShown", desc := "(J)J" } : Jvm.MethodName) ({ cls := "ShadowTheatre", name := "mixShown", desc := "(J)J" } : Jvm.MethodName) ∈ qw_tw := qw_in0 23 rfl rfl
theorem tz_24 : Jvm.Cond.selects "ShadowTheatre" ({ cls := "ShadowTheatre", name := "mixStepPlans", desc := "(JI)J" } : Jvm.MethodName) ({ cls := "ShadowTheatre", name := "mixStepPlans", desc := "(JI)J" } : Jvm.MethodName) ∈ qw_tw := qw_in0 24 rfl rfl
theorem tz_25 : Jvm.Cond.selects "ShadowTheatre" ({ cls := "ShadowTheatre", name := "mixRest", desc := "(J)J" } : Jvm.MethodName) ({ cls := "ShadowTheatre", name := "mixRest", desc := "(J)J" } : Jvm.MethodName) ∈ qw_tw := qw_in0 25 rfl rfl
theorem tz_26 : Jvm.Cond.selects "ShadowTheatreModel" ({ cls := "ShadowTheatreModel", name := "finds", desc := "(I)I" } : Jvm.MethodName) ({ cls := "ShadowTheatreModel", name := "finds", desc := "(I)I" } : Jvm.MethodName) ∈ qw_tw := qw_in0 26 rfl rfl
theorem tz_27 : Jvm.Cond.selects "ShadowTheatreModel" ({ cls := "ShadowTheatreModel", name := "lacks", desc := "(III)I" } : Jvm.MethodName) ({ cls := "ShadowTheatreModel", name := "lacks", desc := "(III)I" } : Jvm.MethodName) ∈ qw_tw := qw_in0 27 rfl rfl
theorem tz_28 : Jvm.Cond.selects "ShadowTheatreModel" ({ cls := "ShadowTheatreModel", name := "readsText", desc := "(I)I" } : Jvm.MethodName) ({ cls := "ShadowTheatreModel", name := "readsText", desc := "(I)I" } : Jvm.MethodName) ∈ qw_tw := qw_in0 28 rfl rfl
theorem tz_29 : Jvm.Cond.selects "ShadowTheatreModel" ({ cls := "ShadowTheatreModel", name := "readsFigures", desc := "()I" } : Jvm.MethodName) ({ cls := "ShadowTheatreModel", name := "readsFigures", desc := "()I" } : Jvm.MethodName) ∈ qw_tw := qw_in0 29 rfl rfl
theorem tz_30 : Jvm.Cond.selects "ShadowTheatreModel" ({ cls := "ShadowTheatreModel", name := "readsCues", desc := "()I" } : Jvm.MethodName) ({ cls := "ShadowTheatreModel", name := "readsCues", desc := "()I" } : Jvm.MethodName) ∈ qw_tw := qw_in0 30 rfl rfl
theorem tz_31 : Jvm.Cond.selects "ShadowTheatreModel" ({ cls := "ShadowTheatreModel", name := "stills", desc := "(I)I" } : Jvm.MethodName) ({ cls := "ShadowTheatreModel", name := "stills", desc := "(I)I" } : Jvm.MethodName) ∈ qw_tw := qw_in0 31 rfl rfl
theorem tz_32 : Jvm.Cond.selects "ShadowTheatreModel" ({ cls := "ShadowTheatreModel", name := "readsPicture", desc := "()I" } : Jvm.MethodName) ({ cls := "ShadowTheatreModel", name := "readsPicture", desc := "()I" } : Jvm.MethodName) ∈ qw_tw := qw_in0 32 rfl rfl
theorem tz_33 : Jvm.Cond.selects "ShadowTheatreModel" ({ cls := "ShadowTheatreModel", name := "blank", desc := "(I)I" } : Jvm.MethodName) ({ cls := "ShadowTheatreModel", name := "blank", desc := "(I)I" } : Jvm.MethodName) ∈ qw_tw := qw_in0 33 rfl rfl
theorem tz_34 : Jvm.Cond.selects "ShadowTheatreModel" ({ cls := "ShadowTheatreModel", name := "isFigure", desc := "(I)Z" } : Jvm.MethodName) ({ cls := "ShadowTheatreModel", name := "isFigure", desc := "(I)Z" } : Jvm.MethodName) ∈ qw_tw := qw_in0 34 rfl rfl
theorem tz_35 : Jvm.Cond.selects "ShadowTheatreModel" ({ cls := "ShadowTheatreModel", name := "figureBy", desc := "(II)I" } : Jvm.MethodName) ({ cls := "ShadowTheatreModel", name := "figureBy", desc := "(II)I" } : Jvm.MethodName) ∈ qw_tw := qw_in0 35 rfl rfl
theorem tz_36 : Jvm.Cond.selects "ShadowTheatreModel" ({ cls := "ShadowTheatreModel", name := "cueBy", desc := "(II)I" } : Jvm.MethodName) ({ cls := "ShadowTheatreModel", name := "cueBy", desc := "(II)I" } : Jvm.MethodName) ∈ qw_tw := qw_in0 36 rfl rfl
theorem tz_37 : Jvm.Cond.selects "ShadowTheatreModel" ({ cls := "ShadowTheatreModel", name := "find", desc := "()V" } : Jvm.MethodName) ({ cls := "ShadowTheatreModel", name := "find", desc := "()V" } : Jvm.MethodName) ∈ qw_tw := qw_in0 37 rfl rfl
theorem tz_38 : Jvm.Cond.selects "ShadowTheatreModel" ({ cls := "ShadowTheatreModel", name := "lives", desc := "()V" } : Jvm.MethodName) ({ cls := "ShadowTheatreModel", name := "lives", desc := "()V" } : Jvm.MethodName) ∈ qw_tw := qw_in0 38 rfl rfl
theorem tz_39 : Jvm.Cond.selects "ShadowTheatreModel" ({ cls := "ShadowTheatreModel", name := "goes", desc := "(II)V" } : Jvm.MethodName) ({ cls := "ShadowTheatreModel", name := "goes", desc := "(II)V" } : Jvm.MethodName) ∈ qw_tw := qw_in0 39 rfl rfl
theorem tz_40 : Jvm.Cond.selects "ShadowTheatreModel" ({ cls := "ShadowTheatreModel", name := "keeps", desc := "(I)V" } : Jvm.MethodName) ({ cls := "ShadowTheatreModel", name := "keeps", desc := "(I)V" } : Jvm.MethodName) ∈ qw_tw := qw_in0 40 rfl rfl
theorem tz_41 : Jvm.Cond.selects "ShadowTheatreModel" ({ cls := "ShadowTheatreModel", name := "lightOf", desc := "(II)I" } : Jvm.MethodName) ({ cls := "ShadowTheatreModel", name := "lightOf", desc := "(II)I" } : Jvm.MethodName) ∈ qw_tw := qw_in0 41 rfl rfl
theorem tz_42 : Jvm.Cond.selects "ShadowTheatreModel" ({ cls := "ShadowTheatreModel", name := "isOut", desc := "(I)Z" } : Jvm.MethodName) ({ cls := "ShadowTheatreModel", name := "isOut", desc := "(I)Z" } : Jvm.MethodName) ∈ qw_tw := qw_in0 42 rfl rfl
theorem tz_43 : Jvm.Cond.selects "ShadowTheatreModel" ({ cls := "ShadowTheatreModel", name := "isOver", desc := "(III)Z" } : Jvm.MethodName) ({ cls := "ShadowTheatreModel", name := "isOver", desc := "(III)Z" } : Jvm.MethodName) ∈ qw_tw := qw_in0 43 rfl rfl
theorem tz_44 : Jvm.Cond.selects "ShadowTheatreModel" ({ cls := "ShadowTheatreModel", name := "coversOf", desc := "(II)I" } : Jvm.MethodName) ({ cls := "ShadowTheatreModel", name := "coversOf", desc := "(II)I" } : Jvm.MethodName) ∈ qw_tw := qw_in0 44 rfl rfl
theorem tz_45 : Jvm.Cond.selects "ShadowTheatreModel" ({ cls := "ShadowTheatreModel", name := "atOf", desc := "(III)I" } : Jvm.MethodName) ({ cls := "ShadowTheatreModel", name := "atOf", desc := "(III)I" } : Jvm.MethodName) ∈ qw_tw := qw_in0 45 rfl rfl
theorem tz_46 : Jvm.Cond.selects "ShadowTheatreModel" ({ cls := "ShadowTheatreModel", name := "falseOf", desc := "(I)I" } : Jvm.MethodName) ({ cls := "ShadowTheatreModel", name := "falseOf", desc := "(I)I" } : Jvm.MethodName) ∈ qw_tw := qw_in0 46 rfl rfl
theorem tz_47 : Jvm.Cond.selects "ShadowTheatreModel" ({ cls := "ShadowTheatreModel", name := "darkOf", desc := "(I)I" } : Jvm.MethodName) ({ cls := "ShadowTheatreModel", name := "darkOf", desc := "(I)I" } : Jvm.MethodName) ∈ qw_tw := qw_in0 47 rfl rfl
theorem tz_48 : Jvm.Cond.selects "ShadowTheatreModel" ({ cls := "ShadowTheatreModel", name := "shownBy", desc := "(I)I" } : Jvm.MethodName) ({ cls := "ShadowTheatreModel", name := "shownBy", desc := "(I)I" } : Jvm.MethodName) ∈ qw_tw := qw_in0 48 rfl rfl
theorem tz_49 : Jvm.Cond.selects "ShadowTheatreModel" ({ cls := "ShadowTheatreModel", name := "isShown", desc := "(I)Z" } : Jvm.MethodName) ({ cls := "ShadowTheatreModel", name := "isShown", desc := "(I)Z" } : Jvm.MethodName) ∈ qw_tw := qw_in0 49 rfl rfl
theorem tz_50 : Jvm.Cond.selects "ShadowTheatreModel" ({ cls := "ShadowTheatreModel", name := "cellsTold", desc := "()I" } : Jvm.MethodName) ({ cls := "ShadowTheatreModel", name := "cellsTold", desc := "()I" } : Jvm.MethodName) ∈ qw_tw := qw_in0 50 rfl rfl
theorem tz_51 : Jvm.Cond.selects "ShadowTheatreModel" ({ cls := "ShadowTheatreModel", name := "touchedBy", desc := "(I)I" } : Jvm.MethodName) ({ cls := "ShadowTheatreModel", name := "touchedBy", desc := "(I)I" } : Jvm.MethodName) ∈ qw_tw := qw_in0 51 rfl rfl
theorem tz_52 : Jvm.Cond.selects "ShadowTheatreModel" ({ cls := "ShadowTheatreModel", name := "isTouching", desc := "(III)Z" } : Jvm.MethodName) ({ cls := "ShadowTheatreModel", name := "isTouching", desc := "(III)Z" } : Jvm.MethodName) ∈ qw_tw := qw_in0 52 rfl rfl
theorem tz_53 : Jvm.Cond.selects "ShadowTheatreModel" ({ cls := "ShadowTheatreModel", name := "darkestNow", desc := "()I" } : Jvm.MethodName) ({ cls := "ShadowTheatreModel", name := "darkestNow", desc := "()I" } : Jvm.MethodName) ∈ qw_tw := qw_in0 53 rfl rfl
theorem tz_54 : Jvm.Cond.selects "ShadowTheatreModel" ({ cls := "ShadowTheatreModel", name := "hangOf", desc := "(III)I" } : Jvm.MethodName) ({ cls := "ShadowTheatreModel", name := "hangOf", desc := "(III)I" } : Jvm.MethodName) ∈ qw_tw := qw_in0 54 rfl rfl
theorem tz_55 : Jvm.Cond.selects "ShadowTheatreModel" ({ cls := "ShadowTheatreModel", name := "shiftOf", desc := "(II)I" } : Jvm.MethodName) ({ cls := "ShadowTheatreModel", name := "shiftOf", desc := "(II)I" } : Jvm.MethodName) ∈ qw_tw := qw_in0 55 rfl rfl
theorem tz_56 : Jvm.Cond.selects "ShadowTheatreModel" ({ cls := "ShadowTheatreModel", name := "moreOf", desc := "(I)I" } : Jvm.MethodName) ({ cls := "ShadowTheatreModel", name := "moreOf", desc := "(I)I" } : Jvm.MethodName) ∈ qw_tw := qw_in0 56 rfl rfl
theorem tz_57 : Jvm.Cond.selects "ShadowTheatreModel" ({ cls := "ShadowTheatreModel", name := "isShownBy", desc := "(II)Z" } : Jvm.MethodName) ({ cls := "ShadowTheatreModel", name := "isShownBy", desc := "(II)Z" } : Jvm.MethodName) ∈ qw_tw := qw_in0 57 rfl rfl
theorem tz_58 : Jvm.Cond.selects "ShadowTheatreModel" ({ cls := "ShadowTheatreModel", name := "leaveOf", desc := "(II)I" } : Jvm.MethodName) ({ cls := "ShadowTheatreModel", name := "leaveOf", desc := "(II)I" } : Jvm.MethodName) ∈ qw_tw := qw_in0 58 rfl rfl
theorem tz_59 : Jvm.Cond.selects "ShadowTheatreModel" ({ cls := "ShadowTheatreModel", name := "isShownWithout", desc := "(II)Z" } : Jvm.MethodName) ({ cls := "ShadowTheatreModel", name := "isShownWithout", desc := "(II)Z" } : Jvm.MethodName) ∈ qw_tw := qw_in0 59 rfl rfl
theorem tz_60 : Jvm.Cond.selects "ShadowTheatreModel" ({ cls := "ShadowTheatreModel", name := "neverNow", desc := "()I" } : Jvm.MethodName) ({ cls := "ShadowTheatreModel", name := "neverNow", desc := "()I" } : Jvm.MethodName) ∈ qw_tw := qw_in0 60 rfl rfl
theorem tz_61 : Jvm.Cond.selects "ShadowTheatreModel" ({ cls := "ShadowTheatreModel", name := "isSeen", desc := "()Z" } : Jvm.MethodName) ({ cls := "ShadowTheatreModel", name := "isSeen", desc := "()Z" } : Jvm.MethodName) ∈ qw_tw := qw_in0 61 rfl rfl
theorem tz_62 : Jvm.Cond.selects "ShadowTheatreModel" ({ cls := "ShadowTheatreModel", name := "wasOf", desc := "(II)I" } : Jvm.MethodName) ({ cls := "ShadowTheatreModel", name := "wasOf", desc := "(II)I" } : Jvm.MethodName) ∈ qw_tw := qw_in0 62 rfl rfl
theorem tz_63 : Jvm.Cond.selects "ShadowTheatreModel" ({ cls := "ShadowTheatreModel", name := "colourBy", desc := "(I)I" } : Jvm.MethodName) ({ cls := "ShadowTheatreModel", name := "colourBy", desc := "(I)I" } : Jvm.MethodName) ∈ qw_tw := qw_in0 63 rfl rfl
theorem tz_64 : Jvm.Cond.selects "ShadowTheatreModel" ({ cls := "ShadowTheatreModel", name := "deepOf", desc := "(I)I" } : Jvm.MethodName) ({ cls := "ShadowTheatreModel", name := "deepOf", desc := "(I)I" } : Jvm.MethodName) ∈ qw_tw := qw_in0 64 rfl rfl
theorem tz_65 : Jvm.Cond.selects "ShadowTheatreModel" ({ cls := "ShadowTheatreModel", name := "askOf", desc := "(I)I" } : Jvm.MethodName) ({ cls := "ShadowTheatreModel", name := "askOf", desc := "(I)I" } : Jvm.MethodName) ∈ qw_tw := qw_in0 65 rfl rfl
theorem tz_66 : Jvm.Cond.selects "ShadowTheatreModel" ({ cls := "ShadowTheatreModel", name := "stumbleOf", desc := "(IIII)J" } : Jvm.MethodName) ({ cls := "ShadowTheatreModel", name := "stumbleOf", desc := "(IIII)J" } : Jvm.MethodName) ∈ qw_tw := qw_in0 66 rfl rfl
theorem tz_67 : Jvm.Cond.selects "ShadowTheatreModel" ({ cls := "ShadowTheatreModel", name := "playOf", desc := "(III)I" } : Jvm.MethodName) ({ cls := "ShadowTheatreModel", name := "playOf", desc := "(III)I" } : Jvm.MethodName) ∈ qw_tw := qw_in0 67 rfl rfl
theorem tz_68 : Jvm.Cond.selects "ShadowTheatreModel" ({ cls := "ShadowTheatreModel", name := "lot", desc := "(I)I" } : Jvm.MethodName) ({ cls := "ShadowTheatreModel", name := "lot", desc := "(I)I" } : Jvm.MethodName) ∈ qw_tw := qw_in0 68 rfl rfl
theorem tz_69 : Jvm.Cond.selects "ShadowTheatreModel" ({ cls := "ShadowTheatreModel", name := "cuesTold", desc := "()I" } : Jvm.MethodName) ({ cls := "ShadowTheatreModel", name := "cuesTold", desc := "()I" } : Jvm.MethodName) ∈ qw_tw := qw_in0 69 rfl rfl
theorem tz_70 : Jvm.Cond.selects "ShadowTheatreModel" ({ cls := "ShadowTheatreModel", name := "tellsFigure", desc := "(JI)J" } : Jvm.MethodName) ({ cls := "ShadowTheatreModel", name := "tellsFigure", desc := "(JI)J" } : Jvm.MethodName) ∈ qw_tw := qw_in0 70 rfl rfl
theorem tz_71 : Jvm.Cond.selects "ShadowTheatreModel" ({ cls := "ShadowTheatreModel", name := "tellsAt", desc := "(JII)J" } : Jvm.MethodName) ({ cls := "ShadowTheatreModel", name := "tellsAt", desc := "(JII)J" } : Jvm.MethodName) ∈ qw_tw := qw_in0 71 rfl rfl
theorem tz_72 : Jvm.Cond.selects "ShadowTheatreModel" ({ cls := "ShadowTheatreModel", name := "tellsStep", desc := "(JI)J" } : Jvm.MethodName) ({ cls := "ShadowTheatreModel", name := "tellsStep", desc := "(JI)J" } : Jvm.MethodName) ∈ qw_tw := qw_in0 72 rfl rfl
theorem tz_74 : Jvm.Cond.initialized "ShadowTheatre" ∈ qw_tw := qw_in1 1 rfl rfl
theorem tz_75 : Jvm.Cond.initialized "ShadowTheatre$Row" ∈ qw_tw := qw_in1 2 rfl rfl
theorem tz_76 : Jvm.Cond.initialized "java/lang/Math" ∈ qw_tw := qw_in1 3 rfl rfl
theorem tz_77 : Jvm.Cond.initialized "ShadowTheatre$Show" ∈ qw_tw := qw_in1 4 rfl rfl
theorem tz_78 : Jvm.Cond.initialized "ShadowTheatre$Troupe" ∈ qw_tw := qw_in1 5 rfl rfl
theorem tz_79 : Jvm.Cond.initialized "ShadowTheatre$Cues" ∈ qw_tw := qw_in1 6 rfl rfl
theorem tz_80 : Jvm.Cond.initialized "ShadowTheatre$Picture" ∈ qw_tw := qw_in1 7 rfl rfl
theorem tz_81 : Jvm.Cond.initialized "ShadowTheatre$Glow" ∈ qw_tw := qw_in1 8 rfl rfl
theorem tz_82 : Jvm.Cond.initialized "ShadowTheatre$Stage" ∈ qw_tw := qw_in1 9 rfl rfl
theorem tz_83 : Jvm.Cond.initialized "ShadowTheatre$Planner" ∈ qw_tw := qw_in1 10 rfl rfl
theorem tz_84 : Jvm.Cond.initialized "ShadowTheatre$Witness" ∈ qw_tw := qw_in1 11 rfl rfl
theorem tz_85 : Jvm.Cond.initialized "ShadowTheatre$Chance" ∈ qw_tw := qw_in1 12 rfl rfl
theorem tz_86 : Jvm.Cond.initialized "ShadowTheatre$Sheet" ∈ qw_tw := qw_in1 13 rfl rfl
theorem tz_87 : Jvm.Cond.initialized "ShadowTheatreModel" ∈ qw_tw := qw_in1 14 rfl rfl
theorem tz_88 : Jvm.Cond.initialized "java/lang/String" ∈ qw_tw := qw_in1 15 rfl rfl
theorem tz_89 : Jvm.Cond.initialized "java/lang/StringLatin1" ∈ qw_tw := qw_in1 16 rfl rfl
theorem tz_93 : Jvm.Cond.initialized "java/lang/Integer" ∈ qw_tw := qw_in1 20 rfl rfl
theorem tz_94 : Jvm.Cond.initialized "java/lang/System" ∈ qw_tw := qw_in1 21 rfl rfl
theorem tz_109 : Jvm.Cond.methodLink "ShadowTheatre$Row" (9 : Nat) ({ cls := "java/lang/Math", name := "max", desc := "(II)I" } : Jvm.MethodName) ∈ qw_tw := qw_in1 36 rfl rfl
theorem tz_110 : Jvm.Cond.static ({ cls := "java/lang/Math", name := "max", desc := "(II)I" } : Jvm.MethodName) ∈ qw_tw := qw_in1 37 rfl rfl
theorem tz_111 : Jvm.Cond.code ({ cls := "java/lang/Math", name := "max", desc := "(II)I" } : Jvm.MethodName) prog_17_method_65_code (2 : Nat) (Option.some Jvm.ClassFile.FieldType.int) ∈ qw_tw := qw_in1 38 rfl rfl
theorem tz_112 : Jvm.Cond.fieldLink "ShadowTheatre$Row" (15 : Nat) "ShadowTheatre$Row" "items" "[I" ∈ qw_tw := qw_in1 39 rfl rfl
theorem tz_113 : Jvm.Cond.fieldLink "ShadowTheatre$Row" (21 : Nat) "ShadowTheatre$Row" "count" "I" ∈ qw_tw := qw_in1 40 rfl rfl
theorem tz_138 : Jvm.Cond.fieldLink "ShadowTheatre$Troupe" (9 : Nat) "ShadowTheatre$Troupe" "depth" "[I" ∈ qw_tw := qw_in1 65 rfl rfl
theorem tz_140 : Jvm.Cond.fieldLink "ShadowTheatre$Troupe" (15 : Nat) "ShadowTheatre$Troupe" "place" "[I" ∈ qw_tw := qw_in1 67 rfl rfl
theorem tz_142 : Jvm.Cond.fieldLink "ShadowTheatre$Troupe" (18 : Nat) "ShadowTheatre$Troupe" "colour" "[I" ∈ qw_tw := qw_in1 69 rfl rfl
theorem tz_144 : Jvm.Cond.fieldLink "ShadowTheatre$Troupe" (21 : Nat) "ShadowTheatre$Troupe" "marks" "[I" ∈ qw_tw := qw_in1 71 rfl rfl
theorem tz_146 : Jvm.Cond.fieldLink "ShadowTheatre$Troupe" (24 : Nat) "ShadowTheatre$Troupe" "card" "[I" ∈ qw_tw := qw_in1 73 rfl rfl
theorem tz_148 : Jvm.Cond.fieldLink "ShadowTheatre$Troupe" (44 : Nat) "ShadowTheatre$Troupe" "count" "I" ∈ qw_tw := qw_in1 75 rfl rfl
theorem tz_154 : Jvm.Cond.fieldLink "ShadowTheatre$Troupe" (27 : Nat) "ShadowTheatre$Troupe" "faultPlace" "I" ∈ qw_tw := qw_in1 81 rfl rfl
theorem tz_177 : Jvm.Cond.fieldLink "ShadowTheatre$Cues" (9 : Nat) "ShadowTheatre$Cues" "figure" "[I" ∈ qw_tw := qw_in1 104 rfl rfl
theorem tz_178 : Jvm.Cond.fieldLink "ShadowTheatre$Cues" (15 : Nat) "ShadowTheatre$Cues" "whither" "[I" ∈ qw_tw := qw_in1 105 rfl rfl
theorem tz_179 : Jvm.Cond.fieldLink "ShadowTheatre$Cues" (35 : Nat) "ShadowTheatre$Cues" "count" "I" ∈ qw_tw := qw_in1 106 rfl rfl
theorem tz_180 : Jvm.Cond.fieldLink "ShadowTheatre$Cues" (18 : Nat) "ShadowTheatre$Cues" "faultPlace" "I" ∈ qw_tw := qw_in1 107 rfl rfl
theorem tz_203 : Jvm.Cond.fieldLink "ShadowTheatre$Glow" (9 : Nat) "ShadowTheatre$Glow" "red" "I" ∈ qw_tw := qw_in1 130 rfl rfl
theorem tz_205 : Jvm.Cond.fieldLink "ShadowTheatre$Glow" (15 : Nat) "ShadowTheatre$Glow" "green" "I" ∈ qw_tw := qw_in1 132 rfl rfl
theorem tz_207 : Jvm.Cond.fieldLink "ShadowTheatre$Glow" (18 : Nat) "ShadowTheatre$Glow" "blue" "I" ∈ qw_tw := qw_in1 134 rfl rfl
theorem tz_216 : Jvm.Cond.fieldLink "ShadowTheatre$Picture" (12 : Nat) "ShadowTheatre$Picture" "wanted" "LShadowTheatre$Glow;" ∈ qw_tw := qw_in1 143 rfl rfl
theorem tz_217 : Jvm.Cond.fieldLink "ShadowTheatre$Picture" (26 : Nat) "ShadowTheatre$Picture" "told" "I" ∈ qw_tw := qw_in1 144 rfl rfl
theorem tz_219 : Jvm.Cond.fieldLink "ShadowTheatre$Picture" (18 : Nat) "ShadowTheatre$Picture" "faultPlace" "I" ∈ qw_tw := qw_in1 146 rfl rfl
theorem tz_238 : Jvm.Cond.methodLink "ShadowTheatre$Stage" (41 : Nat) ({ cls := "ShadowTheatre$Stage", name := "rayTo", desc := "(III)I" } : Jvm.MethodName) ∈ qw_tw := qw_in1 165 rfl rfl
theorem tz_239 : Jvm.Cond.static ({ cls := "ShadowTheatre$Stage", name := "rayTo", desc := "(III)I" } : Jvm.MethodName) ∈ qw_tw := qw_in1 166 rfl rfl
theorem tz_240 : Jvm.Cond.code ({ cls := "ShadowTheatre$Stage", name := "rayTo", desc := "(III)I" } : Jvm.MethodName) prog_10_method_2_code (3 : Nat) (Option.some Jvm.ClassFile.FieldType.int) ∈ qw_tw := qw_in1 167 rfl rfl
theorem tz_241 : Jvm.Cond.fieldLink "ShadowTheatre$Stage" (37 : Nat) "ShadowTheatre$Stage" "told" "LShadowTheatre$Troupe;" ∈ qw_tw := qw_in1 168 rfl rfl
theorem tz_242 : Jvm.Cond.fieldLink "ShadowTheatre$Stage" (9 : Nat) "ShadowTheatre$Stage" "rays" "[I" ∈ qw_tw := qw_in1 169 rfl rfl
theorem tz_243 : Jvm.Cond.fieldLink "ShadowTheatre$Stage" (15 : Nat) "ShadowTheatre$Stage" "depth" "[I" ∈ qw_tw := qw_in1 170 rfl rfl
theorem tz_244 : Jvm.Cond.fieldLink "ShadowTheatre$Stage" (18 : Nat) "ShadowTheatre$Stage" "place" "[I" ∈ qw_tw := qw_in1 171 rfl rfl
theorem tz_245 : Jvm.Cond.fieldLink "ShadowTheatre$Stage" (21 : Nat) "ShadowTheatre$Stage" "colour" "[I" ∈ qw_tw := qw_in1 172 rfl rfl
theorem tz_246 : Jvm.Cond.fieldLink "ShadowTheatre$Stage" (24 : Nat) "ShadowTheatre$Stage" "coverRay" "[I" ∈ qw_tw := qw_in1 173 rfl rfl
theorem tz_247 : Jvm.Cond.fieldLink "ShadowTheatre$Stage" (27 : Nat) "ShadowTheatre$Stage" "cover" "[I" ∈ qw_tw := qw_in1 174 rfl rfl
theorem tz_248 : Jvm.Cond.fieldLink "ShadowTheatre$Stage" (33 : Nat) "ShadowTheatre$Stage" "glow" "LShadowTheatre$Glow;" ∈ qw_tw := qw_in1 175 rfl rfl
theorem tz_254 : Jvm.Cond.fieldLink "ShadowTheatre$Stage" (45 : Nat) "ShadowTheatre$Stage" "lamp" "I" ∈ qw_tw := qw_in1 181 rfl rfl
theorem tz_275 : Jvm.Cond.fieldLink "ShadowTheatre$Show" (12 : Nat) "ShadowTheatre$Show" "figures" "LShadowTheatre$Troupe;" ∈ qw_tw := qw_in1 202 rfl rfl
theorem tz_279 : Jvm.Cond.fieldLink "ShadowTheatre$Show" (21 : Nat) "ShadowTheatre$Show" "cues" "LShadowTheatre$Cues;" ∈ qw_tw := qw_in1 206 rfl rfl
theorem tz_283 : Jvm.Cond.fieldLink "ShadowTheatre$Show" (28 : Nat) "ShadowTheatre$Show" "picture" "LShadowTheatre$Picture;" ∈ qw_tw := qw_in1 210 rfl rfl
theorem tz_285 : Jvm.Cond.fieldLink "ShadowTheatre$Show" (37 : Nat) "ShadowTheatre$Show" "flickers" "LShadowTheatre$Row;" ∈ qw_tw := qw_in1 212 rfl rfl
theorem tz_289 : Jvm.Cond.fieldLink "ShadowTheatre$Show" (46 : Nat) "ShadowTheatre$Show" "stage" "LShadowTheatre$Stage;" ∈ qw_tw := qw_in1 216 rfl rfl
theorem tz_292 : Jvm.Cond.fieldLink "ShadowTheatre$Show" (50 : Nat) "ShadowTheatre$Show" "lamp" "I" ∈ qw_tw := qw_in1 219 rfl rfl
theorem tz_315 : Jvm.Cond.fieldLink "ShadowTheatre$Planner" (28 : Nat) "ShadowTheatre$Planner" "show" "LShadowTheatre$Show;" ∈ qw_tw := qw_in2 2 rfl rfl
theorem tz_316 : Jvm.Cond.fieldLink "ShadowTheatre$Planner" (38 : Nat) "ShadowTheatre$Planner" "stage" "LShadowTheatre$Stage;" ∈ qw_tw := qw_in2 3 rfl rfl
theorem tz_317 : Jvm.Cond.fieldLink "ShadowTheatre$Planner" (12 : Nat) "ShadowTheatre$Planner" "others" "LShadowTheatre$Glow;" ∈ qw_tw := qw_in2 4 rfl rfl
theorem tz_318 : Jvm.Cond.fieldLink "ShadowTheatre$Planner" (18 : Nat) "ShadowTheatre$Planner" "endDepth" "[I" ∈ qw_tw := qw_in2 5 rfl rfl
theorem tz_319 : Jvm.Cond.fieldLink "ShadowTheatre$Planner" (22 : Nat) "ShadowTheatre$Planner" "endPlace" "[I" ∈ qw_tw := qw_in2 6 rfl rfl
theorem tz_320 : Jvm.Cond.fieldLink "ShadowTheatre$Planner" (25 : Nat) "ShadowTheatre$Planner" "plan" "[I" ∈ qw_tw := qw_in2 7 rfl rfl
theorem tz_342 : Jvm.Cond.fieldLink "ShadowTheatre$Witness" (24 : Nat) "ShadowTheatre$Witness" "show" "LShadowTheatre$Show;" ∈ qw_tw := qw_in2 29 rfl rfl
theorem tz_343 : Jvm.Cond.fieldLink "ShadowTheatre$Witness" (34 : Nat) "ShadowTheatre$Witness" "stage" "LShadowTheatre$Stage;" ∈ qw_tw := qw_in2 30 rfl rfl
theorem tz_344 : Jvm.Cond.fieldLink "ShadowTheatre$Witness" (14 : Nat) "ShadowTheatre$Witness" "sights" "LShadowTheatre$Row;" ∈ qw_tw := qw_in2 31 rfl rfl
theorem tz_346 : Jvm.Cond.fieldLink "ShadowTheatre$Witness" (20 : Nat) "ShadowTheatre$Witness" "tally" "[I" ∈ qw_tw := qw_in2 33 rfl rfl
theorem tz_364 : Jvm.Cond.fieldLink "ShadowTheatre$Chance" (22 : Nat) "ShadowTheatre$Chance" "show" "LShadowTheatre$Show;" ∈ qw_tw := qw_in2 51 rfl rfl
theorem tz_365 : Jvm.Cond.fieldLink "ShadowTheatre$Chance" (12 : Nat) "ShadowTheatre$Chance" "lots" "LShadowTheatre$Cues;" ∈ qw_tw := qw_in2 52 rfl rfl
theorem tz_366 : Jvm.Cond.fieldLink "ShadowTheatre$Chance" (36 : Nat) "ShadowTheatre$Chance" "above" "J" ∈ qw_tw := qw_in2 53 rfl rfl
theorem tz_368 : Jvm.Cond.fieldLink "ShadowTheatre$Chance" (18 : Nat) "ShadowTheatre$Chance" "below" "J" ∈ qw_tw := qw_in2 55 rfl rfl
theorem tz_386 : Jvm.Cond.fieldLink "ShadowTheatre$Sheet" (9 : Nat) "ShadowTheatre$Sheet" "items" "[I" ∈ qw_tw := qw_in2 73 rfl rfl
theorem tz_388 : Jvm.Cond.fieldLink "ShadowTheatre$Sheet" (15 : Nat) "ShadowTheatre$Sheet" "form" "I" ∈ qw_tw := qw_in2 75 rfl rfl
theorem tz_390 : Jvm.Cond.fieldLink "ShadowTheatre$Sheet" (19 : Nat) "ShadowTheatre$Sheet" "count" "I" ∈ qw_tw := qw_in2 77 rfl rfl
theorem tz_399 : Jvm.Cond.methodLink "ShadowTheatre" (65 : Nat) ({ cls := "ShadowTheatre$Stage", name := "forgetCovers", desc := "()V" } : Jvm.MethodName) ∈ qw_tw := qw_in2 86 rfl rfl
theorem tz_400 : Jvm.Cond.instanceMethod ({ cls := "ShadowTheatre$Stage", name := "forgetCovers", desc := "()V" } : Jvm.MethodName) ∈ qw_tw := qw_in2 87 rfl rfl
theorem tz_401 : Jvm.Cond.selects "ShadowTheatre$Stage" ({ cls := "ShadowTheatre$Stage", name := "forgetCovers", desc := "()V" } : Jvm.MethodName) ({ cls := "ShadowTheatre$Stage", name := "forgetCovers", desc := "()V" } : Jvm.MethodName) ∈ qw_tw := qw_in2 88 rfl rfl
theorem tz_402 : Jvm.Cond.code ({ cls := "ShadowTheatre$Stage", name := "forgetCovers", desc := "()V" } : Jvm.MethodName) prog_10_method_3_code (2 : Nat) (Option.none : Option Jvm.ClassFile.FieldType) ∈ qw_tw := qw_in2 89 rfl rfl
theorem tz_403 : Jvm.Cond.fieldLink "ShadowTheatre" (14 : Nat) "ShadowTheatre" "figureText" "LShadowTheatre$Row;" ∈ qw_tw := qw_in2 90 rfl rfl
theorem tz_404 : Jvm.Cond.fieldLink "ShadowTheatre" (18 : Nat) "ShadowTheatre" "cueText" "LShadowTheatre$Row;" ∈ qw_tw := qw_in2 91 rfl rfl
theorem tz_405 : Jvm.Cond.fieldLink "ShadowTheatre" (21 : Nat) "ShadowTheatre" "pictureText" "LShadowTheatre$Row;" ∈ qw_tw := qw_in2 92 rfl rfl
theorem tz_406 : Jvm.Cond.fieldLink "ShadowTheatre" (27 : Nat) "ShadowTheatre" "show" "LShadowTheatre$Show;" ∈ qw_tw := qw_in2 93 rfl rfl
theorem tz_407 : Jvm.Cond.fieldLink "ShadowTheatre" (36 : Nat) "ShadowTheatre" "planner" "LShadowTheatre$Planner;" ∈ qw_tw := qw_in2 94 rfl rfl
theorem tz_408 : Jvm.Cond.fieldLink "ShadowTheatre" (43 : Nat) "ShadowTheatre" "witness" "LShadowTheatre$Witness;" ∈ qw_tw := qw_in2 95 rfl rfl
theorem tz_409 : Jvm.Cond.fieldLink "ShadowTheatre" (50 : Nat) "ShadowTheatre" "chance" "LShadowTheatre$Chance;" ∈ qw_tw := qw_in2 96 rfl rfl
theorem tz_410 : Jvm.Cond.fieldLink "ShadowTheatre" (56 : Nat) "ShadowTheatre" "sheets" "[LShadowTheatre$Sheet;" ∈ qw_tw := qw_in2 97 rfl rfl
theorem tz_411 : Jvm.Cond.fieldLink "ShadowTheatre" (290 : Nat) "ShadowTheatre" "finding" "I" ∈ qw_tw := qw_in2 98 rfl rfl
theorem tz_435 : Jvm.Cond.methodLink "ShadowTheatre" (70 : Nat) ({ cls := "ShadowTheatre", name := "textOf", desc := "(I)LShadowTheatre$Row;" } : Jvm.MethodName) ∈ qw_tw := qw_in2 122 rfl rfl
theorem tz_437 : Jvm.Cond.instanceMethod ({ cls := "ShadowTheatre", name := "textOf", desc := "(I)LShadowTheatre$Row;" } : Jvm.MethodName) ∈ qw_tw := qw_in2 124 rfl rfl
theorem tz_438 : Jvm.Cond.code ({ cls := "ShadowTheatre", name := "textOf", desc := "(I)LShadowTheatre$Row;" } : Jvm.MethodName) prog_1_method_47_code (2 : Nat) (Option.some (Jvm.ClassFile.FieldType.object "ShadowTheatre$Row")) ∈ qw_tw := qw_in2 125 rfl rfl
theorem tz_439 : Jvm.Cond.methodLink "ShadowTheatre" (74 : Nat) ({ cls := "ShadowTheatre", name := "isBelow", desc := "(II)Z" } : Jvm.MethodName) ∈ qw_tw := qw_in2 126 rfl rfl
theorem tz_440 : Jvm.Cond.static ({ cls := "ShadowTheatre", name := "isBelow", desc := "(II)Z" } : Jvm.MethodName) ∈ qw_tw := qw_in2 127 rfl rfl
theorem tz_441 : Jvm.Cond.code ({ cls := "ShadowTheatre", name := "isBelow", desc := "(II)Z" } : Jvm.MethodName) prog_1_method_46_code (2 : Nat) (Option.some Jvm.ClassFile.FieldType.boolean) ∈ qw_tw := qw_in2 128 rfl rfl
theorem tz_442 : Jvm.Cond.methodLink "ShadowTheatre" (78 : Nat) ({ cls := "ShadowTheatre$Row", name := "isFull", desc := "()Z" } : Jvm.MethodName) ∈ qw_tw := qw_in2 129 rfl rfl
theorem tz_443 : Jvm.Cond.instanceMethod ({ cls := "ShadowTheatre$Row", name := "isFull", desc := "()Z" } : Jvm.MethodName) ∈ qw_tw := qw_in2 130 rfl rfl
theorem tz_444 : Jvm.Cond.selects "ShadowTheatre$Row" ({ cls := "ShadowTheatre$Row", name := "isFull", desc := "()Z" } : Jvm.MethodName) ({ cls := "ShadowTheatre$Row", name := "isFull", desc := "()Z" } : Jvm.MethodName) ∈ qw_tw := qw_in2 131 rfl rfl
theorem tz_445 : Jvm.Cond.code ({ cls := "ShadowTheatre$Row", name := "isFull", desc := "()Z" } : Jvm.MethodName) prog_7_method_2_code (1 : Nat) (Option.some Jvm.ClassFile.FieldType.boolean) ∈ qw_tw := qw_in2 132 rfl rfl
theorem tz_446 : Jvm.Cond.methodLink "ShadowTheatre" (82 : Nat) ({ cls := "ShadowTheatre$Row", name := "add", desc := "(I)I" } : Jvm.MethodName) ∈ qw_tw := qw_in2 133 rfl rfl
theorem tz_447 : Jvm.Cond.instanceMethod ({ cls := "ShadowTheatre$Row", name := "add", desc := "(I)I" } : Jvm.MethodName) ∈ qw_tw := qw_in2 134 rfl rfl
theorem tz_448 : Jvm.Cond.selects "ShadowTheatre$Row" ({ cls := "ShadowTheatre$Row", name := "add", desc := "(I)I" } : Jvm.MethodName) ({ cls := "ShadowTheatre$Row", name := "add", desc := "(I)I" } : Jvm.MethodName) ∈ qw_tw := qw_in2 135 rfl rfl
theorem tz_449 : Jvm.Cond.code ({ cls := "ShadowTheatre$Row", name := "add", desc := "(I)I" } : Jvm.MethodName) prog_7_method_3_code (2 : Nat) (Option.some Jvm.ClassFile.FieldType.int) ∈ qw_tw := qw_in2 136 rfl rfl
theorem tz_450 : Jvm.Cond.methodLink "ShadowTheatre" (86 : Nat) ({ cls := "ShadowTheatre", name := "parse", desc := "(I)V" } : Jvm.MethodName) ∈ qw_tw := qw_in2 137 rfl rfl
theorem tz_452 : Jvm.Cond.instanceMethod ({ cls := "ShadowTheatre", name := "parse", desc := "(I)V" } : Jvm.MethodName) ∈ qw_tw := qw_in2 139 rfl rfl
theorem tz_453 : Jvm.Cond.code ({ cls := "ShadowTheatre", name := "parse", desc := "(I)V" } : Jvm.MethodName) prog_1_method_48_code (2 : Nat) (Option.none : Option Jvm.ClassFile.FieldType) ∈ qw_tw := qw_in2 140 rfl rfl
theorem tz_454 : Jvm.Cond.methodLink "ShadowTheatre" (352 : Nat) ({ cls := "ShadowTheatre$Troupe", name := "parse", desc := "(LShadowTheatre$Row;)V" } : Jvm.MethodName) ∈ qw_tw := qw_in2 141 rfl rfl
theorem tz_455 : Jvm.Cond.instanceMethod ({ cls := "ShadowTheatre$Troupe", name := "parse", desc := "(LShadowTheatre$Row;)V" } : Jvm.MethodName) ∈ qw_tw := qw_in2 142 rfl rfl
theorem tz_456 : Jvm.Cond.selects "ShadowTheatre$Troupe" ({ cls := "ShadowTheatre$Troupe", name := "parse", desc := "(LShadowTheatre$Row;)V" } : Jvm.MethodName) ({ cls := "ShadowTheatre$Troupe", name := "parse", desc := "(LShadowTheatre$Row;)V" } : Jvm.MethodName) ∈ qw_tw := qw_in2 143 rfl rfl
theorem tz_457 : Jvm.Cond.code ({ cls := "ShadowTheatre$Troupe", name := "parse", desc := "(LShadowTheatre$Row;)V" } : Jvm.MethodName) prog_11_method_2_code (6 : Nat) (Option.none : Option Jvm.ClassFile.FieldType) ∈ qw_tw := qw_in2 144 rfl rfl
theorem tz_458 : Jvm.Cond.methodLink "ShadowTheatre$Troupe" (36 : Nat) ({ cls := "ShadowTheatre$Row", name := "item", desc := "(I)I" } : Jvm.MethodName) ∈ qw_tw := qw_in2 145 rfl rfl
theorem tz_459 : Jvm.Cond.instanceMethod ({ cls := "ShadowTheatre$Row", name := "item", desc := "(I)I" } : Jvm.MethodName) ∈ qw_tw := qw_in2 146 rfl rfl
theorem tz_460 : Jvm.Cond.selects "ShadowTheatre$Row" ({ cls := "ShadowTheatre$Row", name := "item", desc := "(I)I" } : Jvm.MethodName) ({ cls := "ShadowTheatre$Row", name := "item", desc := "(I)I" } : Jvm.MethodName) ∈ qw_tw := qw_in2 147 rfl rfl
theorem tz_461 : Jvm.Cond.code ({ cls := "ShadowTheatre$Row", name := "item", desc := "(I)I" } : Jvm.MethodName) prog_7_method_6_code (2 : Nat) (Option.some Jvm.ClassFile.FieldType.int) ∈ qw_tw := qw_in2 148 rfl rfl
theorem tz_462 : Jvm.Cond.methodLink "ShadowTheatre$Troupe" (40 : Nat) ({ cls := "ShadowTheatre$Troupe", name := "takes", desc := "(III)Z" } : Jvm.MethodName) ∈ qw_tw := qw_in2 149 rfl rfl
theorem tz_464 : Jvm.Cond.instanceMethod ({ cls := "ShadowTheatre$Troupe", name := "takes", desc := "(III)Z" } : Jvm.MethodName) ∈ qw_tw := qw_in2 151 rfl rfl
theorem tz_465 : Jvm.Cond.code ({ cls := "ShadowTheatre$Troupe", name := "takes", desc := "(III)Z" } : Jvm.MethodName) prog_11_method_3_code (4 : Nat) (Option.some Jvm.ClassFile.FieldType.boolean) ∈ qw_tw := qw_in2 152 rfl rfl
theorem tz_467 : Jvm.Cond.methodLink "ShadowTheatre$Troupe" (47 : Nat) ({ cls := "java/lang/String", name := "indexOf", desc := "(I)I" } : Jvm.MethodName) ∈ qw_tw := qw_in2 154 rfl rfl
theorem tz_468 : Jvm.Cond.instanceMethod ({ cls := "java/lang/String", name := "indexOf", desc := "(I)I" } : Jvm.MethodName) ∈ qw_tw := qw_in2 155 rfl rfl
theorem tz_469 : Jvm.Cond.selects "java/lang/String" ({ cls := "java/lang/String", name := "indexOf", desc := "(I)I" } : Jvm.MethodName) ({ cls := "java/lang/String", name := "indexOf", desc := "(I)I" } : Jvm.MethodName) ∈ qw_tw := qw_in2 156 rfl rfl
theorem tz_470 : Jvm.Cond.code ({ cls := "java/lang/String", name := "indexOf", desc := "(I)I" } : Jvm.MethodName) prog_18_method_79_code (2 : Nat) (Option.some Jvm.ClassFile.FieldType.int) ∈ qw_tw := qw_in2 157 rfl rfl
theorem tz_471 : Jvm.Cond.methodLink "java/lang/String" (633 : Nat) ({ cls := "java/lang/String", name := "indexOf", desc := "(II)I" } : Jvm.MethodName) ∈ qw_tw := qw_in2 158 rfl rfl
theorem tz_472 : Jvm.Cond.instanceMethod ({ cls := "java/lang/String", name := "indexOf", desc := "(II)I" } : Jvm.MethodName) ∈ qw_tw := qw_in2 159 rfl rfl
theorem tz_473 : Jvm.Cond.selects "java/lang/String" ({ cls := "java/lang/String", name := "indexOf", desc := "(II)I" } : Jvm.MethodName) ({ cls := "java/lang/String", name := "indexOf", desc := "(II)I" } : Jvm.MethodName) ∈ qw_tw := qw_in2 160 rfl rfl
theorem tz_474 : Jvm.Cond.code ({ cls := "java/lang/String", name := "indexOf", desc := "(II)I" } : Jvm.MethodName) prog_18_method_80_code (3 : Nat) (Option.some Jvm.ClassFile.FieldType.int) ∈ qw_tw := qw_in2 161 rfl rfl
theorem tz_475 : Jvm.Cond.methodLink "java/lang/String" (492 : Nat) ({ cls := "java/lang/String", name := "isLatin1", desc := "()Z" } : Jvm.MethodName) ∈ qw_tw := qw_in2 162 rfl rfl
theorem tz_476 : Jvm.Cond.instanceMethod ({ cls := "java/lang/String", name := "isLatin1", desc := "()Z" } : Jvm.MethodName) ∈ qw_tw := qw_in2 163 rfl rfl
theorem tz_477 : Jvm.Cond.selects "java/lang/String" ({ cls := "java/lang/String", name := "isLatin1", desc := "()Z" } : Jvm.MethodName) ({ cls := "java/lang/String", name := "isLatin1", desc := "()Z" } : Jvm.MethodName) ∈ qw_tw := qw_in2 164 rfl rfl
theorem tz_478 : Jvm.Cond.code ({ cls := "java/lang/String", name := "isLatin1", desc := "()Z" } : Jvm.MethodName) prog_18_method_154_code (1 : Nat) (Option.some Jvm.ClassFile.FieldType.boolean) ∈ qw_tw := qw_in2 165 rfl rfl
theorem tz_479 : Jvm.Cond.fieldLink "java/lang/String" (38 : Nat) "java/lang/String" "COMPACT_STRINGS" "Z" ∈ qw_tw := qw_in2 166 rfl rfl
theorem tz_481 : Jvm.Cond.methodLink "java/lang/String" (505 : Nat) ({ cls := "java/lang/String", name := "length", desc := "()I" } : Jvm.MethodName) ∈ qw_tw := qw_in2 168 rfl rfl
theorem tz_482 : Jvm.Cond.instanceMethod ({ cls := "java/lang/String", name := "length", desc := "()I" } : Jvm.MethodName) ∈ qw_tw := qw_in2 169 rfl rfl
theorem tz_483 : Jvm.Cond.selects "java/lang/String" ({ cls := "java/lang/String", name := "length", desc := "()I" } : Jvm.MethodName) ({ cls := "java/lang/String", name := "length", desc := "()I" } : Jvm.MethodName) ∈ qw_tw := qw_in2 170 rfl rfl
theorem tz_484 : Jvm.Cond.code ({ cls := "java/lang/String", name := "length", desc := "()I" } : Jvm.MethodName) prog_18_method_54_code (1 : Nat) (Option.some Jvm.ClassFile.FieldType.int) ∈ qw_tw := qw_in2 171 rfl rfl
theorem tz_485 : Jvm.Cond.methodLink "java/lang/String" (335 : Nat) ({ cls := "java/lang/String", name := "coder", desc := "()B" } : Jvm.MethodName) ∈ qw_tw := qw_in2 172 rfl rfl
theorem tz_486 : Jvm.Cond.instanceMethod ({ cls := "java/lang/String", name := "coder", desc := "()B" } : Jvm.MethodName) ∈ qw_tw := qw_in2 173 rfl rfl
theorem tz_487 : Jvm.Cond.selects "java/lang/String" ({ cls := "java/lang/String", name := "coder", desc := "()B" } : Jvm.MethodName) ({ cls := "java/lang/String", name := "coder", desc := "()B" } : Jvm.MethodName) ∈ qw_tw := qw_in2 174 rfl rfl
theorem tz_488 : Jvm.Cond.code ({ cls := "java/lang/String", name := "coder", desc := "()B" } : Jvm.MethodName) prog_18_method_152_code (1 : Nat) (Option.some Jvm.ClassFile.FieldType.byte) ∈ qw_tw := qw_in2 175 rfl rfl
theorem tz_489 : Jvm.Cond.methodLink "java/lang/String" (637 : Nat) ({ cls := "java/lang/StringLatin1", name := "indexOf", desc := "([BIII)I" } : Jvm.MethodName) ∈ qw_tw := qw_in2 176 rfl rfl
theorem tz_490 : Jvm.Cond.static ({ cls := "java/lang/StringLatin1", name := "indexOf", desc := "([BIII)I" } : Jvm.MethodName) ∈ qw_tw := qw_in2 177 rfl rfl
theorem tz_491 : Jvm.Cond.code ({ cls := "java/lang/StringLatin1", name := "indexOf", desc := "([BIII)I" } : Jvm.MethodName) prog_19_method_22_code (4 : Nat) (Option.some Jvm.ClassFile.FieldType.int) ∈ qw_tw := qw_in2 178 rfl rfl
theorem tz_492 : Jvm.Cond.methodLink "java/lang/StringLatin1" (88 : Nat) ({ cls := "java/lang/StringLatin1", name := "canEncode", desc := "(I)Z" } : Jvm.MethodName) ∈ qw_tw := qw_in2 179 rfl rfl
theorem tz_493 : Jvm.Cond.static ({ cls := "java/lang/StringLatin1", name := "canEncode", desc := "(I)Z" } : Jvm.MethodName) ∈ qw_tw := qw_in2 180 rfl rfl
theorem tz_494 : Jvm.Cond.code ({ cls := "java/lang/StringLatin1", name := "canEncode", desc := "(I)Z" } : Jvm.MethodName) prog_19_method_4_code (1 : Nat) (Option.some Jvm.ClassFile.FieldType.boolean) ∈ qw_tw := qw_in2 181 rfl rfl
theorem tz_495 : Jvm.Cond.methodLink "java/lang/StringLatin1" (92 : Nat) ({ cls := "java/lang/Math", name := "max", desc := "(II)I" } : Jvm.MethodName) ∈ qw_tw := qw_in2 182 rfl rfl
theorem tz_496 : Jvm.Cond.methodLink "java/lang/StringLatin1" (38 : Nat) ({ cls := "java/lang/Math", name := "min", desc := "(II)I" } : Jvm.MethodName) ∈ qw_tw := qw_in2 183 rfl rfl
theorem tz_497 : Jvm.Cond.static ({ cls := "java/lang/Math", name := "min", desc := "(II)I" } : Jvm.MethodName) ∈ qw_tw := qw_in2 184 rfl rfl
theorem tz_498 : Jvm.Cond.code ({ cls := "java/lang/Math", name := "min", desc := "(II)I" } : Jvm.MethodName) prog_17_method_69_code (2 : Nat) (Option.some Jvm.ClassFile.FieldType.int) ∈ qw_tw := qw_in2 185 rfl rfl
theorem tz_499 : Jvm.Cond.methodLink "java/lang/StringLatin1" (95 : Nat) ({ cls := "java/lang/StringLatin1", name := "indexOfChar", desc := "([BIII)I" } : Jvm.MethodName) ∈ qw_tw := qw_in2 186 rfl rfl
theorem tz_500 : Jvm.Cond.static ({ cls := "java/lang/StringLatin1", name := "indexOfChar", desc := "([BIII)I" } : Jvm.MethodName) ∈ qw_tw := qw_in2 187 rfl rfl
theorem tz_501 : Jvm.Cond.code ({ cls := "java/lang/StringLatin1", name := "indexOfChar", desc := "([BIII)I" } : Jvm.MethodName) prog_19_method_23_code (6 : Nat) (Option.some Jvm.ClassFile.FieldType.int) ∈ qw_tw := qw_in2 188 rfl rfl
theorem tz_551 : Jvm.Cond.methodLink "ShadowTheatre$Troupe" (52 : Nat) ({ cls := "ShadowTheatre$Troupe", name := "takesMark", desc := "(II)Z" } : Jvm.MethodName) ∈ qw_tw := qw_in2 238 rfl rfl
theorem tz_553 : Jvm.Cond.instanceMethod ({ cls := "ShadowTheatre$Troupe", name := "takesMark", desc := "(II)Z" } : Jvm.MethodName) ∈ qw_tw := qw_in3 0 rfl rfl
theorem tz_554 : Jvm.Cond.code ({ cls := "ShadowTheatre$Troupe", name := "takesMark", desc := "(II)Z" } : Jvm.MethodName) prog_11_method_4_code (3 : Nat) (Option.some Jvm.ClassFile.FieldType.boolean) ∈ qw_tw := qw_in3 1 rfl rfl
theorem tz_555 : Jvm.Cond.methodLink "ShadowTheatre" (355 : Nat) ({ cls := "ShadowTheatre$Cues", name := "parse", desc := "(LShadowTheatre$Row;)V" } : Jvm.MethodName) ∈ qw_tw := qw_in3 2 rfl rfl
theorem tz_556 : Jvm.Cond.instanceMethod ({ cls := "ShadowTheatre$Cues", name := "parse", desc := "(LShadowTheatre$Row;)V" } : Jvm.MethodName) ∈ qw_tw := qw_in3 3 rfl rfl
theorem tz_557 : Jvm.Cond.selects "ShadowTheatre$Cues" ({ cls := "ShadowTheatre$Cues", name := "parse", desc := "(LShadowTheatre$Row;)V" } : Jvm.MethodName) ({ cls := "ShadowTheatre$Cues", name := "parse", desc := "(LShadowTheatre$Row;)V" } : Jvm.MethodName) ∈ qw_tw := qw_in3 4 rfl rfl
theorem tz_558 : Jvm.Cond.code ({ cls := "ShadowTheatre$Cues", name := "parse", desc := "(LShadowTheatre$Row;)V" } : Jvm.MethodName) prog_3_method_2_code (3 : Nat) (Option.none : Option Jvm.ClassFile.FieldType) ∈ qw_tw := qw_in3 5 rfl rfl
theorem tz_559 : Jvm.Cond.methodLink "ShadowTheatre$Cues" (27 : Nat) ({ cls := "ShadowTheatre$Row", name := "item", desc := "(I)I" } : Jvm.MethodName) ∈ qw_tw := qw_in3 6 rfl rfl
theorem tz_560 : Jvm.Cond.methodLink "ShadowTheatre$Cues" (31 : Nat) ({ cls := "ShadowTheatre$Cues", name := "takes", desc := "(II)Z" } : Jvm.MethodName) ∈ qw_tw := qw_in3 7 rfl rfl
theorem tz_562 : Jvm.Cond.instanceMethod ({ cls := "ShadowTheatre$Cues", name := "takes", desc := "(II)Z" } : Jvm.MethodName) ∈ qw_tw := qw_in3 9 rfl rfl
theorem tz_563 : Jvm.Cond.code ({ cls := "ShadowTheatre$Cues", name := "takes", desc := "(II)Z" } : Jvm.MethodName) prog_3_method_3_code (4 : Nat) (Option.some Jvm.ClassFile.FieldType.boolean) ∈ qw_tw := qw_in3 10 rfl rfl
theorem tz_565 : Jvm.Cond.methodLink "ShadowTheatre$Cues" (38 : Nat) ({ cls := "java/lang/String", name := "indexOf", desc := "(I)I" } : Jvm.MethodName) ∈ qw_tw := qw_in3 12 rfl rfl
theorem tz_566 : Jvm.Cond.methodLink "ShadowTheatre" (356 : Nat) ({ cls := "ShadowTheatre$Picture", name := "parse", desc := "(LShadowTheatre$Row;)V" } : Jvm.MethodName) ∈ qw_tw := qw_in3 13 rfl rfl
theorem tz_567 : Jvm.Cond.instanceMethod ({ cls := "ShadowTheatre$Picture", name := "parse", desc := "(LShadowTheatre$Row;)V" } : Jvm.MethodName) ∈ qw_tw := qw_in3 14 rfl rfl
theorem tz_568 : Jvm.Cond.selects "ShadowTheatre$Picture" ({ cls := "ShadowTheatre$Picture", name := "parse", desc := "(LShadowTheatre$Row;)V" } : Jvm.MethodName) ({ cls := "ShadowTheatre$Picture", name := "parse", desc := "(LShadowTheatre$Row;)V" } : Jvm.MethodName) ∈ qw_tw := qw_in3 15 rfl rfl
theorem tz_569 : Jvm.Cond.code ({ cls := "ShadowTheatre$Picture", name := "parse", desc := "(LShadowTheatre$Row;)V" } : Jvm.MethodName) prog_5_method_2_code (4 : Nat) (Option.none : Option Jvm.ClassFile.FieldType) ∈ qw_tw := qw_in3 16 rfl rfl
theorem tz_570 : Jvm.Cond.methodLink "ShadowTheatre$Picture" (22 : Nat) ({ cls := "ShadowTheatre$Glow", name := "fill", desc := "(I)V" } : Jvm.MethodName) ∈ qw_tw := qw_in3 17 rfl rfl
theorem tz_571 : Jvm.Cond.instanceMethod ({ cls := "ShadowTheatre$Glow", name := "fill", desc := "(I)V" } : Jvm.MethodName) ∈ qw_tw := qw_in3 18 rfl rfl
theorem tz_572 : Jvm.Cond.selects "ShadowTheatre$Glow" ({ cls := "ShadowTheatre$Glow", name := "fill", desc := "(I)V" } : Jvm.MethodName) ({ cls := "ShadowTheatre$Glow", name := "fill", desc := "(I)V" } : Jvm.MethodName) ∈ qw_tw := qw_in3 19 rfl rfl
theorem tz_573 : Jvm.Cond.code ({ cls := "ShadowTheatre$Glow", name := "fill", desc := "(I)V" } : Jvm.MethodName) prog_4_method_2_code (2 : Nat) (Option.none : Option Jvm.ClassFile.FieldType) ∈ qw_tw := qw_in3 20 rfl rfl
theorem tz_574 : Jvm.Cond.methodLink "ShadowTheatre$Picture" (34 : Nat) ({ cls := "ShadowTheatre$Row", name := "item", desc := "(I)I" } : Jvm.MethodName) ∈ qw_tw := qw_in3 21 rfl rfl
theorem tz_575 : Jvm.Cond.methodLink "ShadowTheatre$Picture" (38 : Nat) ({ cls := "ShadowTheatre$Glow", name := "set", desc := "(II)V" } : Jvm.MethodName) ∈ qw_tw := qw_in3 22 rfl rfl
theorem tz_576 : Jvm.Cond.instanceMethod ({ cls := "ShadowTheatre$Glow", name := "set", desc := "(II)V" } : Jvm.MethodName) ∈ qw_tw := qw_in3 23 rfl rfl
theorem tz_577 : Jvm.Cond.selects "ShadowTheatre$Glow" ({ cls := "ShadowTheatre$Glow", name := "set", desc := "(II)V" } : Jvm.MethodName) ({ cls := "ShadowTheatre$Glow", name := "set", desc := "(II)V" } : Jvm.MethodName) ∈ qw_tw := qw_in3 24 rfl rfl
theorem tz_578 : Jvm.Cond.code ({ cls := "ShadowTheatre$Glow", name := "set", desc := "(II)V" } : Jvm.MethodName) prog_4_method_4_code (3 : Nat) (Option.none : Option Jvm.ClassFile.FieldType) ∈ qw_tw := qw_in3 25 rfl rfl
theorem tz_584 : Jvm.Cond.methodLink "ShadowTheatre" (93 : Nat) ({ cls := "ShadowTheatre$Row", name := "clear", desc := "()I" } : Jvm.MethodName) ∈ qw_tw := qw_in3 31 rfl rfl
theorem tz_585 : Jvm.Cond.instanceMethod ({ cls := "ShadowTheatre$Row", name := "clear", desc := "()I" } : Jvm.MethodName) ∈ qw_tw := qw_in3 32 rfl rfl
theorem tz_586 : Jvm.Cond.selects "ShadowTheatre$Row" ({ cls := "ShadowTheatre$Row", name := "clear", desc := "()I" } : Jvm.MethodName) ({ cls := "ShadowTheatre$Row", name := "clear", desc := "()I" } : Jvm.MethodName) ∈ qw_tw := qw_in3 33 rfl rfl
theorem tz_587 : Jvm.Cond.code ({ cls := "ShadowTheatre$Row", name := "clear", desc := "()I" } : Jvm.MethodName) prog_7_method_5_code (2 : Nat) (Option.some Jvm.ClassFile.FieldType.int) ∈ qw_tw := qw_in3 34 rfl rfl
theorem tz_592 : Jvm.Cond.methodLink "ShadowTheatre" (97 : Nat) ({ cls := "ShadowTheatre$Row", name := "drop", desc := "()I" } : Jvm.MethodName) ∈ qw_tw := qw_in3 39 rfl rfl
theorem tz_593 : Jvm.Cond.instanceMethod ({ cls := "ShadowTheatre$Row", name := "drop", desc := "()I" } : Jvm.MethodName) ∈ qw_tw := qw_in3 40 rfl rfl
theorem tz_594 : Jvm.Cond.selects "ShadowTheatre$Row" ({ cls := "ShadowTheatre$Row", name := "drop", desc := "()I" } : Jvm.MethodName) ({ cls := "ShadowTheatre$Row", name := "drop", desc := "()I" } : Jvm.MethodName) ∈ qw_tw := qw_in3 41 rfl rfl
theorem tz_595 : Jvm.Cond.code ({ cls := "ShadowTheatre$Row", name := "drop", desc := "()I" } : Jvm.MethodName) prog_7_method_4_code (1 : Nat) (Option.some Jvm.ClassFile.FieldType.int) ∈ qw_tw := qw_in3 42 rfl rfl
theorem tz_597 : Jvm.Cond.instanceMethod ({ cls := "ShadowTheatre", name := "fault", desc := "(I)I" } : Jvm.MethodName) ∈ qw_tw := qw_in3 44 rfl rfl
theorem tz_598 : Jvm.Cond.selects "ShadowTheatre" ({ cls := "ShadowTheatre", name := "fault", desc := "(I)I" } : Jvm.MethodName) ({ cls := "ShadowTheatre", name := "fault", desc := "(I)I" } : Jvm.MethodName) ∈ qw_tw := qw_in3 45 rfl rfl
theorem tz_599 : Jvm.Cond.code ({ cls := "ShadowTheatre", name := "fault", desc := "(I)I" } : Jvm.MethodName) prog_1_method_5_code (2 : Nat) (Option.some Jvm.ClassFile.FieldType.int) ∈ qw_tw := qw_in3 46 rfl rfl
theorem tz_601 : Jvm.Cond.instanceMethod ({ cls := "ShadowTheatre", name := "figure", desc := "(II)I" } : Jvm.MethodName) ∈ qw_tw := qw_in3 48 rfl rfl
theorem tz_602 : Jvm.Cond.selects "ShadowTheatre" ({ cls := "ShadowTheatre", name := "figure", desc := "(II)I" } : Jvm.MethodName) ({ cls := "ShadowTheatre", name := "figure", desc := "(II)I" } : Jvm.MethodName) ∈ qw_tw := qw_in3 49 rfl rfl
theorem tz_603 : Jvm.Cond.code ({ cls := "ShadowTheatre", name := "figure", desc := "(II)I" } : Jvm.MethodName) prog_1_method_6_code (3 : Nat) (Option.some Jvm.ClassFile.FieldType.int) ∈ qw_tw := qw_in3 50 rfl rfl
theorem tz_604 : Jvm.Cond.methodLink "ShadowTheatre" (123 : Nat) ({ cls := "ShadowTheatre$Troupe", name := "has", desc := "(I)Z" } : Jvm.MethodName) ∈ qw_tw := qw_in3 51 rfl rfl
theorem tz_605 : Jvm.Cond.instanceMethod ({ cls := "ShadowTheatre$Troupe", name := "has", desc := "(I)Z" } : Jvm.MethodName) ∈ qw_tw := qw_in3 52 rfl rfl
theorem tz_606 : Jvm.Cond.selects "ShadowTheatre$Troupe" ({ cls := "ShadowTheatre$Troupe", name := "has", desc := "(I)Z" } : Jvm.MethodName) ({ cls := "ShadowTheatre$Troupe", name := "has", desc := "(I)Z" } : Jvm.MethodName) ∈ qw_tw := qw_in3 53 rfl rfl
theorem tz_607 : Jvm.Cond.code ({ cls := "ShadowTheatre$Troupe", name := "has", desc := "(I)Z" } : Jvm.MethodName) prog_11_method_5_code (2 : Nat) (Option.some Jvm.ClassFile.FieldType.boolean) ∈ qw_tw := qw_in3 54 rfl rfl
theorem tz_608 : Jvm.Cond.methodLink "ShadowTheatre" (127 : Nat) ({ cls := "ShadowTheatre$Troupe", name := "detail", desc := "(II)I" } : Jvm.MethodName) ∈ qw_tw := qw_in3 55 rfl rfl
theorem tz_609 : Jvm.Cond.instanceMethod ({ cls := "ShadowTheatre$Troupe", name := "detail", desc := "(II)I" } : Jvm.MethodName) ∈ qw_tw := qw_in3 56 rfl rfl
theorem tz_610 : Jvm.Cond.selects "ShadowTheatre$Troupe" ({ cls := "ShadowTheatre$Troupe", name := "detail", desc := "(II)I" } : Jvm.MethodName) ({ cls := "ShadowTheatre$Troupe", name := "detail", desc := "(II)I" } : Jvm.MethodName) ∈ qw_tw := qw_in3 57 rfl rfl
theorem tz_611 : Jvm.Cond.code ({ cls := "ShadowTheatre$Troupe", name := "detail", desc := "(II)I" } : Jvm.MethodName) prog_11_method_6_code (3 : Nat) (Option.some Jvm.ClassFile.FieldType.int) ∈ qw_tw := qw_in3 58 rfl rfl
theorem tz_612 : Jvm.Cond.methodLink "ShadowTheatre$Troupe" (56 : Nat) ({ cls := "ShadowTheatre$Troupe", name := "has", desc := "(I)Z" } : Jvm.MethodName) ∈ qw_tw := qw_in3 59 rfl rfl
theorem tz_617 : Jvm.Cond.methodLink "ShadowTheatre" (131 : Nat) ({ cls := "ShadowTheatre$Cues", name := "figureOf", desc := "(I)I" } : Jvm.MethodName) ∈ qw_tw := qw_in3 64 rfl rfl
theorem tz_618 : Jvm.Cond.instanceMethod ({ cls := "ShadowTheatre$Cues", name := "figureOf", desc := "(I)I" } : Jvm.MethodName) ∈ qw_tw := qw_in3 65 rfl rfl
theorem tz_619 : Jvm.Cond.selects "ShadowTheatre$Cues" ({ cls := "ShadowTheatre$Cues", name := "figureOf", desc := "(I)I" } : Jvm.MethodName) ({ cls := "ShadowTheatre$Cues", name := "figureOf", desc := "(I)I" } : Jvm.MethodName) ∈ qw_tw := qw_in3 66 rfl rfl
theorem tz_620 : Jvm.Cond.code ({ cls := "ShadowTheatre$Cues", name := "figureOf", desc := "(I)I" } : Jvm.MethodName) prog_3_method_6_code (2 : Nat) (Option.some Jvm.ClassFile.FieldType.int) ∈ qw_tw := qw_in3 67 rfl rfl
theorem tz_621 : Jvm.Cond.methodLink "ShadowTheatre" (134 : Nat) ({ cls := "ShadowTheatre$Cues", name := "whitherOf", desc := "(I)I" } : Jvm.MethodName) ∈ qw_tw := qw_in3 68 rfl rfl
theorem tz_622 : Jvm.Cond.instanceMethod ({ cls := "ShadowTheatre$Cues", name := "whitherOf", desc := "(I)I" } : Jvm.MethodName) ∈ qw_tw := qw_in3 69 rfl rfl
theorem tz_623 : Jvm.Cond.selects "ShadowTheatre$Cues" ({ cls := "ShadowTheatre$Cues", name := "whitherOf", desc := "(I)I" } : Jvm.MethodName) ({ cls := "ShadowTheatre$Cues", name := "whitherOf", desc := "(I)I" } : Jvm.MethodName) ∈ qw_tw := qw_in3 70 rfl rfl
theorem tz_624 : Jvm.Cond.code ({ cls := "ShadowTheatre$Cues", name := "whitherOf", desc := "(I)I" } : Jvm.MethodName) prog_3_method_7_code (2 : Nat) (Option.some Jvm.ClassFile.FieldType.int) ∈ qw_tw := qw_in3 71 rfl rfl
theorem tz_626 : Jvm.Cond.instanceMethod ({ cls := "ShadowTheatre", name := "picture", desc := "(I)I" } : Jvm.MethodName) ∈ qw_tw := qw_in3 73 rfl rfl
theorem tz_627 : Jvm.Cond.selects "ShadowTheatre" ({ cls := "ShadowTheatre", name := "picture", desc := "(I)I" } : Jvm.MethodName) ({ cls := "ShadowTheatre", name := "picture", desc := "(I)I" } : Jvm.MethodName) ∈ qw_tw := qw_in3 74 rfl rfl
theorem tz_628 : Jvm.Cond.code ({ cls := "ShadowTheatre", name := "picture", desc := "(I)I" } : Jvm.MethodName) prog_1_method_8_code (2 : Nat) (Option.some Jvm.ClassFile.FieldType.int) ∈ qw_tw := qw_in3 75 rfl rfl
theorem tz_629 : Jvm.Cond.methodLink "ShadowTheatre" (137 : Nat) ({ cls := "ShadowTheatre$Picture", name := "lightOf", desc := "(I)I" } : Jvm.MethodName) ∈ qw_tw := qw_in3 76 rfl rfl
theorem tz_630 : Jvm.Cond.instanceMethod ({ cls := "ShadowTheatre$Picture", name := "lightOf", desc := "(I)I" } : Jvm.MethodName) ∈ qw_tw := qw_in3 77 rfl rfl
theorem tz_631 : Jvm.Cond.selects "ShadowTheatre$Picture" ({ cls := "ShadowTheatre$Picture", name := "lightOf", desc := "(I)I" } : Jvm.MethodName) ({ cls := "ShadowTheatre$Picture", name := "lightOf", desc := "(I)I" } : Jvm.MethodName) ∈ qw_tw := qw_in3 78 rfl rfl
theorem tz_632 : Jvm.Cond.code ({ cls := "ShadowTheatre$Picture", name := "lightOf", desc := "(I)I" } : Jvm.MethodName) prog_5_method_3_code (2 : Nat) (Option.some Jvm.ClassFile.FieldType.int) ∈ qw_tw := qw_in3 79 rfl rfl
theorem tz_633 : Jvm.Cond.methodLink "ShadowTheatre$Picture" (42 : Nat) ({ cls := "ShadowTheatre$Glow", name := "lightOf", desc := "(I)I" } : Jvm.MethodName) ∈ qw_tw := qw_in3 80 rfl rfl
theorem tz_634 : Jvm.Cond.instanceMethod ({ cls := "ShadowTheatre$Glow", name := "lightOf", desc := "(I)I" } : Jvm.MethodName) ∈ qw_tw := qw_in3 81 rfl rfl
theorem tz_635 : Jvm.Cond.selects "ShadowTheatre$Glow" ({ cls := "ShadowTheatre$Glow", name := "lightOf", desc := "(I)I" } : Jvm.MethodName) ({ cls := "ShadowTheatre$Glow", name := "lightOf", desc := "(I)I" } : Jvm.MethodName) ∈ qw_tw := qw_in3 82 rfl rfl
theorem tz_636 : Jvm.Cond.code ({ cls := "ShadowTheatre$Glow", name := "lightOf", desc := "(I)I" } : Jvm.MethodName) prog_4_method_6_code (2 : Nat) (Option.some Jvm.ClassFile.FieldType.int) ∈ qw_tw := qw_in3 83 rfl rfl
theorem tz_653 : Jvm.Cond.methodLink "ShadowTheatre" (146 : Nat) ({ cls := "ShadowTheatre", name := "sheetOf", desc := "(I)LShadowTheatre$Sheet;" } : Jvm.MethodName) ∈ qw_tw := qw_in3 100 rfl rfl
theorem tz_655 : Jvm.Cond.instanceMethod ({ cls := "ShadowTheatre", name := "sheetOf", desc := "(I)LShadowTheatre$Sheet;" } : Jvm.MethodName) ∈ qw_tw := qw_in3 102 rfl rfl
theorem tz_656 : Jvm.Cond.code ({ cls := "ShadowTheatre", name := "sheetOf", desc := "(I)LShadowTheatre$Sheet;" } : Jvm.MethodName) prog_1_method_49_code (2 : Nat) (Option.some (Jvm.ClassFile.FieldType.object "ShadowTheatre$Sheet")) ∈ qw_tw := qw_in3 103 rfl rfl
theorem tz_657 : Jvm.Cond.methodLink "ShadowTheatre" (150 : Nat) ({ cls := "ShadowTheatre$Sheet", name := "isLost", desc := "()Z" } : Jvm.MethodName) ∈ qw_tw := qw_in3 104 rfl rfl
theorem tz_658 : Jvm.Cond.instanceMethod ({ cls := "ShadowTheatre$Sheet", name := "isLost", desc := "()Z" } : Jvm.MethodName) ∈ qw_tw := qw_in3 105 rfl rfl
theorem tz_659 : Jvm.Cond.selects "ShadowTheatre$Sheet" ({ cls := "ShadowTheatre$Sheet", name := "isLost", desc := "()Z" } : Jvm.MethodName) ({ cls := "ShadowTheatre$Sheet", name := "isLost", desc := "()Z" } : Jvm.MethodName) ∈ qw_tw := qw_in3 106 rfl rfl
theorem tz_660 : Jvm.Cond.code ({ cls := "ShadowTheatre$Sheet", name := "isLost", desc := "()Z" } : Jvm.MethodName) prog_8_method_2_code (1 : Nat) (Option.some Jvm.ClassFile.FieldType.boolean) ∈ qw_tw := qw_in3 107 rfl rfl
theorem tz_661 : Jvm.Cond.methodLink "ShadowTheatre" (153 : Nat) ({ cls := "ShadowTheatre", name := "find", desc := "(I)I" } : Jvm.MethodName) ∈ qw_tw := qw_in3 108 rfl rfl
theorem tz_663 : Jvm.Cond.instanceMethod ({ cls := "ShadowTheatre", name := "find", desc := "(I)I" } : Jvm.MethodName) ∈ qw_tw := qw_in3 110 rfl rfl
theorem tz_664 : Jvm.Cond.code ({ cls := "ShadowTheatre", name := "find", desc := "(I)I" } : Jvm.MethodName) prog_1_method_50_code (2 : Nat) (Option.some Jvm.ClassFile.FieldType.int) ∈ qw_tw := qw_in3 111 rfl rfl
theorem tz_665 : Jvm.Cond.methodLink "ShadowTheatre" (157 : Nat) ({ cls := "ShadowTheatre$Sheet", name := "item", desc := "(I)I" } : Jvm.MethodName) ∈ qw_tw := qw_in3 112 rfl rfl
theorem tz_666 : Jvm.Cond.instanceMethod ({ cls := "ShadowTheatre$Sheet", name := "item", desc := "(I)I" } : Jvm.MethodName) ∈ qw_tw := qw_in3 113 rfl rfl
theorem tz_667 : Jvm.Cond.selects "ShadowTheatre$Sheet" ({ cls := "ShadowTheatre$Sheet", name := "item", desc := "(I)I" } : Jvm.MethodName) ({ cls := "ShadowTheatre$Sheet", name := "item", desc := "(I)I" } : Jvm.MethodName) ∈ qw_tw := qw_in3 114 rfl rfl
theorem tz_668 : Jvm.Cond.code ({ cls := "ShadowTheatre$Sheet", name := "item", desc := "(I)I" } : Jvm.MethodName) prog_8_method_7_code (2 : Nat) (Option.some Jvm.ClassFile.FieldType.int) ∈ qw_tw := qw_in3 115 rfl rfl
theorem tz_669 : Jvm.Cond.methodLink "ShadowTheatre$Sheet" (28 : Nat) ({ cls := "ShadowTheatre$Sheet", name := "has", desc := "(I)Z" } : Jvm.MethodName) ∈ qw_tw := qw_in3 116 rfl rfl
theorem tz_670 : Jvm.Cond.instanceMethod ({ cls := "ShadowTheatre$Sheet", name := "has", desc := "(I)Z" } : Jvm.MethodName) ∈ qw_tw := qw_in3 117 rfl rfl
theorem tz_671 : Jvm.Cond.selects "ShadowTheatre$Sheet" ({ cls := "ShadowTheatre$Sheet", name := "has", desc := "(I)Z" } : Jvm.MethodName) ({ cls := "ShadowTheatre$Sheet", name := "has", desc := "(I)Z" } : Jvm.MethodName) ∈ qw_tw := qw_in3 118 rfl rfl
theorem tz_672 : Jvm.Cond.code ({ cls := "ShadowTheatre$Sheet", name := "has", desc := "(I)Z" } : Jvm.MethodName) prog_8_method_3_code (2 : Nat) (Option.some Jvm.ClassFile.FieldType.boolean) ∈ qw_tw := qw_in3 119 rfl rfl
theorem tz_674 : Jvm.Cond.instanceMethod ({ cls := "ShadowTheatre", name := "light", desc := "(II)I" } : Jvm.MethodName) ∈ qw_tw := qw_in3 121 rfl rfl
theorem tz_675 : Jvm.Cond.selects "ShadowTheatre" ({ cls := "ShadowTheatre", name := "light", desc := "(II)I" } : Jvm.MethodName) ({ cls := "ShadowTheatre", name := "light", desc := "(II)I" } : Jvm.MethodName) ∈ qw_tw := qw_in3 122 rfl rfl
theorem tz_676 : Jvm.Cond.code ({ cls := "ShadowTheatre", name := "light", desc := "(II)I" } : Jvm.MethodName) prog_1_method_13_code (3 : Nat) (Option.some Jvm.ClassFile.FieldType.int) ∈ qw_tw := qw_in3 123 rfl rfl
theorem tz_677 : Jvm.Cond.methodLink "ShadowTheatre" (160 : Nat) ({ cls := "ShadowTheatre$Show", name := "lightUp", desc := "(I)V" } : Jvm.MethodName) ∈ qw_tw := qw_in3 124 rfl rfl
theorem tz_678 : Jvm.Cond.instanceMethod ({ cls := "ShadowTheatre$Show", name := "lightUp", desc := "(I)V" } : Jvm.MethodName) ∈ qw_tw := qw_in3 125 rfl rfl
theorem tz_679 : Jvm.Cond.selects "ShadowTheatre$Show" ({ cls := "ShadowTheatre$Show", name := "lightUp", desc := "(I)V" } : Jvm.MethodName) ({ cls := "ShadowTheatre$Show", name := "lightUp", desc := "(I)V" } : Jvm.MethodName) ∈ qw_tw := qw_in3 126 rfl rfl
theorem tz_680 : Jvm.Cond.code ({ cls := "ShadowTheatre$Show", name := "lightUp", desc := "(I)V" } : Jvm.MethodName) prog_9_method_6_code (2 : Nat) (Option.none : Option Jvm.ClassFile.FieldType) ∈ qw_tw := qw_in3 127 rfl rfl
theorem tz_681 : Jvm.Cond.methodLink "ShadowTheatre$Show" (61 : Nat) ({ cls := "ShadowTheatre$Stage", name := "start", desc := "(I)V" } : Jvm.MethodName) ∈ qw_tw := qw_in3 128 rfl rfl
theorem tz_682 : Jvm.Cond.instanceMethod ({ cls := "ShadowTheatre$Stage", name := "start", desc := "(I)V" } : Jvm.MethodName) ∈ qw_tw := qw_in3 129 rfl rfl
theorem tz_683 : Jvm.Cond.selects "ShadowTheatre$Stage" ({ cls := "ShadowTheatre$Stage", name := "start", desc := "(I)V" } : Jvm.MethodName) ({ cls := "ShadowTheatre$Stage", name := "start", desc := "(I)V" } : Jvm.MethodName) ∈ qw_tw := qw_in3 130 rfl rfl
theorem tz_684 : Jvm.Cond.code ({ cls := "ShadowTheatre$Stage", name := "start", desc := "(I)V" } : Jvm.MethodName) prog_10_method_4_code (3 : Nat) (Option.none : Option Jvm.ClassFile.FieldType) ∈ qw_tw := qw_in3 131 rfl rfl
theorem tz_685 : Jvm.Cond.methodLink "ShadowTheatre$Show" (74 : Nat) ({ cls := "ShadowTheatre$Show", name := "doCues", desc := "(II)V" } : Jvm.MethodName) ∈ qw_tw := qw_in3 132 rfl rfl
theorem tz_686 : Jvm.Cond.instanceMethod ({ cls := "ShadowTheatre$Show", name := "doCues", desc := "(II)V" } : Jvm.MethodName) ∈ qw_tw := qw_in3 133 rfl rfl
theorem tz_687 : Jvm.Cond.selects "ShadowTheatre$Show" ({ cls := "ShadowTheatre$Show", name := "doCues", desc := "(II)V" } : Jvm.MethodName) ({ cls := "ShadowTheatre$Show", name := "doCues", desc := "(II)V" } : Jvm.MethodName) ∈ qw_tw := qw_in3 134 rfl rfl
theorem tz_688 : Jvm.Cond.code ({ cls := "ShadowTheatre$Show", name := "doCues", desc := "(II)V" } : Jvm.MethodName) prog_9_method_4_code (4 : Nat) (Option.none : Option Jvm.ClassFile.FieldType) ∈ qw_tw := qw_in3 135 rfl rfl
theorem tz_689 : Jvm.Cond.methodLink "ShadowTheatre$Show" (64 : Nat) ({ cls := "ShadowTheatre$Cues", name := "figureOf", desc := "(I)I" } : Jvm.MethodName) ∈ qw_tw := qw_in3 136 rfl rfl
theorem tz_690 : Jvm.Cond.methodLink "ShadowTheatre$Show" (67 : Nat) ({ cls := "ShadowTheatre$Cues", name := "whitherOf", desc := "(I)I" } : Jvm.MethodName) ∈ qw_tw := qw_in3 137 rfl rfl
theorem tz_691 : Jvm.Cond.methodLink "ShadowTheatre$Show" (70 : Nat) ({ cls := "ShadowTheatre$Stage", name := "move", desc := "(II)V" } : Jvm.MethodName) ∈ qw_tw := qw_in3 138 rfl rfl
theorem tz_692 : Jvm.Cond.instanceMethod ({ cls := "ShadowTheatre$Stage", name := "move", desc := "(II)V" } : Jvm.MethodName) ∈ qw_tw := qw_in3 139 rfl rfl
theorem tz_693 : Jvm.Cond.selects "ShadowTheatre$Stage" ({ cls := "ShadowTheatre$Stage", name := "move", desc := "(II)V" } : Jvm.MethodName) ({ cls := "ShadowTheatre$Stage", name := "move", desc := "(II)V" } : Jvm.MethodName) ∈ qw_tw := qw_in3 140 rfl rfl
theorem tz_694 : Jvm.Cond.code ({ cls := "ShadowTheatre$Stage", name := "move", desc := "(II)V" } : Jvm.MethodName) prog_10_method_9_code (3 : Nat) (Option.none : Option Jvm.ClassFile.FieldType) ∈ qw_tw := qw_in3 141 rfl rfl
theorem tz_695 : Jvm.Cond.methodLink "ShadowTheatre$Stage" (54 : Nat) ({ cls := "ShadowTheatre$Troupe", name := "has", desc := "(I)Z" } : Jvm.MethodName) ∈ qw_tw := qw_in3 142 rfl rfl
theorem tz_696 : Jvm.Cond.methodLink "ShadowTheatre$Show" (77 : Nat) ({ cls := "ShadowTheatre$Show", name := "isOut", desc := "(I)Z" } : Jvm.MethodName) ∈ qw_tw := qw_in3 143 rfl rfl
theorem tz_697 : Jvm.Cond.instanceMethod ({ cls := "ShadowTheatre$Show", name := "isOut", desc := "(I)Z" } : Jvm.MethodName) ∈ qw_tw := qw_in3 144 rfl rfl
theorem tz_698 : Jvm.Cond.selects "ShadowTheatre$Show" ({ cls := "ShadowTheatre$Show", name := "isOut", desc := "(I)Z" } : Jvm.MethodName) ({ cls := "ShadowTheatre$Show", name := "isOut", desc := "(I)Z" } : Jvm.MethodName) ∈ qw_tw := qw_in3 145 rfl rfl
theorem tz_699 : Jvm.Cond.code ({ cls := "ShadowTheatre$Show", name := "isOut", desc := "(I)Z" } : Jvm.MethodName) prog_9_method_2_code (3 : Nat) (Option.some Jvm.ClassFile.FieldType.boolean) ∈ qw_tw := qw_in3 146 rfl rfl
theorem tz_700 : Jvm.Cond.methodLink "ShadowTheatre$Show" (57 : Nat) ({ cls := "ShadowTheatre$Row", name := "item", desc := "(I)I" } : Jvm.MethodName) ∈ qw_tw := qw_in3 147 rfl rfl
theorem tz_701 : Jvm.Cond.methodLink "ShadowTheatre$Show" (81 : Nat) ({ cls := "ShadowTheatre$Stage", name := "shine", desc := "(ZI)V" } : Jvm.MethodName) ∈ qw_tw := qw_in3 148 rfl rfl
theorem tz_702 : Jvm.Cond.instanceMethod ({ cls := "ShadowTheatre$Stage", name := "shine", desc := "(ZI)V" } : Jvm.MethodName) ∈ qw_tw := qw_in3 149 rfl rfl
theorem tz_703 : Jvm.Cond.selects "ShadowTheatre$Stage" ({ cls := "ShadowTheatre$Stage", name := "shine", desc := "(ZI)V" } : Jvm.MethodName) ({ cls := "ShadowTheatre$Stage", name := "shine", desc := "(ZI)V" } : Jvm.MethodName) ∈ qw_tw := qw_in3 150 rfl rfl
theorem tz_704 : Jvm.Cond.code ({ cls := "ShadowTheatre$Stage", name := "shine", desc := "(ZI)V" } : Jvm.MethodName) prog_10_method_12_code (4 : Nat) (Option.none : Option Jvm.ClassFile.FieldType) ∈ qw_tw := qw_in3 151 rfl rfl
theorem tz_705 : Jvm.Cond.methodLink "ShadowTheatre$Stage" (65 : Nat) ({ cls := "ShadowTheatre$Glow", name := "fill", desc := "(I)V" } : Jvm.MethodName) ∈ qw_tw := qw_in3 152 rfl rfl
theorem tz_706 : Jvm.Cond.methodLink "ShadowTheatre$Stage" (69 : Nat) ({ cls := "ShadowTheatre$Stage", name := "coverOf", desc := "(I)I" } : Jvm.MethodName) ∈ qw_tw := qw_in3 153 rfl rfl
theorem tz_707 : Jvm.Cond.instanceMethod ({ cls := "ShadowTheatre$Stage", name := "coverOf", desc := "(I)I" } : Jvm.MethodName) ∈ qw_tw := qw_in3 154 rfl rfl
theorem tz_708 : Jvm.Cond.selects "ShadowTheatre$Stage" ({ cls := "ShadowTheatre$Stage", name := "coverOf", desc := "(I)I" } : Jvm.MethodName) ({ cls := "ShadowTheatre$Stage", name := "coverOf", desc := "(I)I" } : Jvm.MethodName) ∈ qw_tw := qw_in3 155 rfl rfl
theorem tz_709 : Jvm.Cond.code ({ cls := "ShadowTheatre$Stage", name := "coverOf", desc := "(I)I" } : Jvm.MethodName) prog_10_method_10_code (3 : Nat) (Option.some Jvm.ClassFile.FieldType.int) ∈ qw_tw := qw_in3 156 rfl rfl
theorem tz_710 : Jvm.Cond.methodLink "ShadowTheatre$Stage" (58 : Nat) ({ cls := "ShadowTheatre$Stage", name := "workOutCover", desc := "(II)I" } : Jvm.MethodName) ∈ qw_tw := qw_in3 157 rfl rfl
theorem tz_712 : Jvm.Cond.instanceMethod ({ cls := "ShadowTheatre$Stage", name := "workOutCover", desc := "(II)I" } : Jvm.MethodName) ∈ qw_tw := qw_in3 159 rfl rfl
theorem tz_713 : Jvm.Cond.code ({ cls := "ShadowTheatre$Stage", name := "workOutCover", desc := "(II)I" } : Jvm.MethodName) prog_10_method_11_code (5 : Nat) (Option.some Jvm.ClassFile.FieldType.int) ∈ qw_tw := qw_in3 160 rfl rfl
theorem tz_714 : Jvm.Cond.methodLink "ShadowTheatre$Stage" (73 : Nat) ({ cls := "ShadowTheatre$Glow", name := "dim", desc := "(II)V" } : Jvm.MethodName) ∈ qw_tw := qw_in3 161 rfl rfl
theorem tz_715 : Jvm.Cond.instanceMethod ({ cls := "ShadowTheatre$Glow", name := "dim", desc := "(II)V" } : Jvm.MethodName) ∈ qw_tw := qw_in3 162 rfl rfl
theorem tz_716 : Jvm.Cond.selects "ShadowTheatre$Glow" ({ cls := "ShadowTheatre$Glow", name := "dim", desc := "(II)V" } : Jvm.MethodName) ({ cls := "ShadowTheatre$Glow", name := "dim", desc := "(II)V" } : Jvm.MethodName) ∈ qw_tw := qw_in3 163 rfl rfl
theorem tz_717 : Jvm.Cond.code ({ cls := "ShadowTheatre$Glow", name := "dim", desc := "(II)V" } : Jvm.MethodName) prog_4_method_5_code (3 : Nat) (Option.none : Option Jvm.ClassFile.FieldType) ∈ qw_tw := qw_in3 164 rfl rfl
theorem tz_718 : Jvm.Cond.methodLink "ShadowTheatre" (167 : Nat) ({ cls := "ShadowTheatre$Glow", name := "lightOf", desc := "(I)I" } : Jvm.MethodName) ∈ qw_tw := qw_in3 165 rfl rfl
theorem tz_720 : Jvm.Cond.instanceMethod ({ cls := "ShadowTheatre", name := "covers", desc := "(II)I" } : Jvm.MethodName) ∈ qw_tw := qw_in3 167 rfl rfl
theorem tz_721 : Jvm.Cond.selects "ShadowTheatre" ({ cls := "ShadowTheatre", name := "covers", desc := "(II)I" } : Jvm.MethodName) ({ cls := "ShadowTheatre", name := "covers", desc := "(II)I" } : Jvm.MethodName) ∈ qw_tw := qw_in3 168 rfl rfl
theorem tz_722 : Jvm.Cond.code ({ cls := "ShadowTheatre", name := "covers", desc := "(II)I" } : Jvm.MethodName) prog_1_method_14_code (3 : Nat) (Option.some Jvm.ClassFile.FieldType.int) ∈ qw_tw := qw_in3 169 rfl rfl
theorem tz_723 : Jvm.Cond.methodLink "ShadowTheatre" (170 : Nat) ({ cls := "ShadowTheatre$Show", name := "coversOf", desc := "(II)I" } : Jvm.MethodName) ∈ qw_tw := qw_in3 170 rfl rfl
theorem tz_724 : Jvm.Cond.instanceMethod ({ cls := "ShadowTheatre$Show", name := "coversOf", desc := "(II)I" } : Jvm.MethodName) ∈ qw_tw := qw_in3 171 rfl rfl
theorem tz_725 : Jvm.Cond.selects "ShadowTheatre$Show" ({ cls := "ShadowTheatre$Show", name := "coversOf", desc := "(II)I" } : Jvm.MethodName) ({ cls := "ShadowTheatre$Show", name := "coversOf", desc := "(II)I" } : Jvm.MethodName) ∈ qw_tw := qw_in3 172 rfl rfl
theorem tz_726 : Jvm.Cond.code ({ cls := "ShadowTheatre$Show", name := "coversOf", desc := "(II)I" } : Jvm.MethodName) prog_9_method_9_code (5 : Nat) (Option.some Jvm.ClassFile.FieldType.int) ∈ qw_tw := qw_in3 173 rfl rfl
theorem tz_727 : Jvm.Cond.methodLink "ShadowTheatre$Show" (97 : Nat) ({ cls := "ShadowTheatre$Show", name := "goTo", desc := "(I)V" } : Jvm.MethodName) ∈ qw_tw := qw_in3 174 rfl rfl
theorem tz_728 : Jvm.Cond.instanceMethod ({ cls := "ShadowTheatre$Show", name := "goTo", desc := "(I)V" } : Jvm.MethodName) ∈ qw_tw := qw_in3 175 rfl rfl
theorem tz_729 : Jvm.Cond.selects "ShadowTheatre$Show" ({ cls := "ShadowTheatre$Show", name := "goTo", desc := "(I)V" } : Jvm.MethodName) ({ cls := "ShadowTheatre$Show", name := "goTo", desc := "(I)V" } : Jvm.MethodName) ∈ qw_tw := qw_in3 176 rfl rfl
theorem tz_730 : Jvm.Cond.code ({ cls := "ShadowTheatre$Show", name := "goTo", desc := "(I)V" } : Jvm.MethodName) prog_9_method_5_code (2 : Nat) (Option.none : Option Jvm.ClassFile.FieldType) ∈ qw_tw := qw_in3 177 rfl rfl
theorem tz_731 : Jvm.Cond.methodLink "ShadowTheatre$Show" (101 : Nat) ({ cls := "ShadowTheatre$Stage", name := "coverOf", desc := "(I)I" } : Jvm.MethodName) ∈ qw_tw := qw_in3 178 rfl rfl
theorem tz_736 : Jvm.Cond.methodLink "ShadowTheatre" (173 : Nat) ({ cls := "ShadowTheatre$Show", name := "whereabouts", desc := "(III)I" } : Jvm.MethodName) ∈ qw_tw := qw_in3 183 rfl rfl
theorem tz_737 : Jvm.Cond.instanceMethod ({ cls := "ShadowTheatre$Show", name := "whereabouts", desc := "(III)I" } : Jvm.MethodName) ∈ qw_tw := qw_in3 184 rfl rfl
theorem tz_738 : Jvm.Cond.selects "ShadowTheatre$Show" ({ cls := "ShadowTheatre$Show", name := "whereabouts", desc := "(III)I" } : Jvm.MethodName) ({ cls := "ShadowTheatre$Show", name := "whereabouts", desc := "(III)I" } : Jvm.MethodName) ∈ qw_tw := qw_in3 185 rfl rfl
theorem tz_739 : Jvm.Cond.code ({ cls := "ShadowTheatre$Show", name := "whereabouts", desc := "(III)I" } : Jvm.MethodName) prog_9_method_10_code (5 : Nat) (Option.some Jvm.ClassFile.FieldType.int) ∈ qw_tw := qw_in3 186 rfl rfl
theorem tz_740 : Jvm.Cond.methodLink "ShadowTheatre$Show" (104 : Nat) ({ cls := "ShadowTheatre$Stage", name := "depthOf", desc := "(I)I" } : Jvm.MethodName) ∈ qw_tw := qw_in3 187 rfl rfl
theorem tz_741 : Jvm.Cond.instanceMethod ({ cls := "ShadowTheatre$Stage", name := "depthOf", desc := "(I)I" } : Jvm.MethodName) ∈ qw_tw := qw_in3 188 rfl rfl
theorem tz_742 : Jvm.Cond.selects "ShadowTheatre$Stage" ({ cls := "ShadowTheatre$Stage", name := "depthOf", desc := "(I)I" } : Jvm.MethodName) ({ cls := "ShadowTheatre$Stage", name := "depthOf", desc := "(I)I" } : Jvm.MethodName) ∈ qw_tw := qw_in3 189 rfl rfl
theorem tz_743 : Jvm.Cond.code ({ cls := "ShadowTheatre$Stage", name := "depthOf", desc := "(I)I" } : Jvm.MethodName) prog_10_method_7_code (2 : Nat) (Option.some Jvm.ClassFile.FieldType.int) ∈ qw_tw := qw_in3 190 rfl rfl
theorem tz_744 : Jvm.Cond.methodLink "ShadowTheatre$Show" (107 : Nat) ({ cls := "ShadowTheatre$Stage", name := "placeOf", desc := "(I)I" } : Jvm.MethodName) ∈ qw_tw := qw_in3 191 rfl rfl
theorem tz_745 : Jvm.Cond.instanceMethod ({ cls := "ShadowTheatre$Stage", name := "placeOf", desc := "(I)I" } : Jvm.MethodName) ∈ qw_tw := qw_in3 192 rfl rfl
theorem tz_746 : Jvm.Cond.selects "ShadowTheatre$Stage" ({ cls := "ShadowTheatre$Stage", name := "placeOf", desc := "(I)I" } : Jvm.MethodName) ({ cls := "ShadowTheatre$Stage", name := "placeOf", desc := "(I)I" } : Jvm.MethodName) ∈ qw_tw := qw_in3 193 rfl rfl
theorem tz_747 : Jvm.Cond.code ({ cls := "ShadowTheatre$Stage", name := "placeOf", desc := "(I)I" } : Jvm.MethodName) prog_10_method_8_code (2 : Nat) (Option.some Jvm.ClassFile.FieldType.int) ∈ qw_tw := qw_in3 194 rfl rfl
theorem tz_748 : Jvm.Cond.methodLink "ShadowTheatre$Show" (110 : Nat) ({ cls := "java/lang/Integer", name := "bitCount", desc := "(I)I" } : Jvm.MethodName) ∈ qw_tw := qw_in3 195 rfl rfl
theorem tz_749 : Jvm.Cond.static ({ cls := "java/lang/Integer", name := "bitCount", desc := "(I)I" } : Jvm.MethodName) ∈ qw_tw := qw_in3 196 rfl rfl
theorem tz_750 : Jvm.Cond.code ({ cls := "java/lang/Integer", name := "bitCount", desc := "(I)I" } : Jvm.MethodName) prog_16_method_49_code (1 : Nat) (Option.some Jvm.ClassFile.FieldType.int) ∈ qw_tw := qw_in3 197 rfl rfl
theorem tz_751 : Jvm.Cond.constant "java/lang/Integer" (265 : Nat) (1431655765 : Int32) ∈ qw_tw := qw_in3 198 rfl rfl
theorem tz_752 : Jvm.Cond.constant "java/lang/Integer" (266 : Nat) (858993459 : Int32) ∈ qw_tw := qw_in3 199 rfl rfl
theorem tz_753 : Jvm.Cond.constant "java/lang/Integer" (267 : Nat) (252645135 : Int32) ∈ qw_tw := qw_in3 200 rfl rfl
theorem tz_754 : Jvm.Cond.methodLink "ShadowTheatre$Show" (115 : Nat) ({ cls := "ShadowTheatre$Show", name := "leastBit", desc := "(I)I" } : Jvm.MethodName) ∈ qw_tw := qw_in3 201 rfl rfl
theorem tz_755 : Jvm.Cond.static ({ cls := "ShadowTheatre$Show", name := "leastBit", desc := "(I)I" } : Jvm.MethodName) ∈ qw_tw := qw_in3 202 rfl rfl
theorem tz_756 : Jvm.Cond.code ({ cls := "ShadowTheatre$Show", name := "leastBit", desc := "(I)I" } : Jvm.MethodName) prog_9_method_11_code (2 : Nat) (Option.some Jvm.ClassFile.FieldType.int) ∈ qw_tw := qw_in3 203 rfl rfl
theorem tz_758 : Jvm.Cond.instanceMethod ({ cls := "ShadowTheatre", name := "screen", desc := "(II)I" } : Jvm.MethodName) ∈ qw_tw := qw_in3 205 rfl rfl
theorem tz_759 : Jvm.Cond.selects "ShadowTheatre" ({ cls := "ShadowTheatre", name := "screen", desc := "(II)I" } : Jvm.MethodName) ({ cls := "ShadowTheatre", name := "screen", desc := "(II)I" } : Jvm.MethodName) ∈ qw_tw := qw_in3 206 rfl rfl
theorem tz_760 : Jvm.Cond.code ({ cls := "ShadowTheatre", name := "screen", desc := "(II)I" } : Jvm.MethodName) prog_1_method_16_code (3 : Nat) (Option.some Jvm.ClassFile.FieldType.int) ∈ qw_tw := qw_in3 207 rfl rfl
theorem tz_761 : Jvm.Cond.methodLink "ShadowTheatre" (177 : Nat) ({ cls := "ShadowTheatre$Show", name := "falseNow", desc := "()I" } : Jvm.MethodName) ∈ qw_tw := qw_in3 208 rfl rfl
theorem tz_762 : Jvm.Cond.instanceMethod ({ cls := "ShadowTheatre$Show", name := "falseNow", desc := "()I" } : Jvm.MethodName) ∈ qw_tw := qw_in3 209 rfl rfl
theorem tz_763 : Jvm.Cond.selects "ShadowTheatre$Show" ({ cls := "ShadowTheatre$Show", name := "falseNow", desc := "()I" } : Jvm.MethodName) ({ cls := "ShadowTheatre$Show", name := "falseNow", desc := "()I" } : Jvm.MethodName) ∈ qw_tw := qw_in3 210 rfl rfl
theorem tz_764 : Jvm.Cond.code ({ cls := "ShadowTheatre$Show", name := "falseNow", desc := "()I" } : Jvm.MethodName) prog_9_method_7_code (1 : Nat) (Option.some Jvm.ClassFile.FieldType.int) ∈ qw_tw := qw_in3 211 rfl rfl
theorem tz_765 : Jvm.Cond.methodLink "ShadowTheatre$Show" (89 : Nat) ({ cls := "ShadowTheatre$Picture", name := "falseBy", desc := "(LShadowTheatre$Glow;)I" } : Jvm.MethodName) ∈ qw_tw := qw_in3 212 rfl rfl
theorem tz_766 : Jvm.Cond.instanceMethod ({ cls := "ShadowTheatre$Picture", name := "falseBy", desc := "(LShadowTheatre$Glow;)I" } : Jvm.MethodName) ∈ qw_tw := qw_in3 213 rfl rfl
theorem tz_767 : Jvm.Cond.selects "ShadowTheatre$Picture" ({ cls := "ShadowTheatre$Picture", name := "falseBy", desc := "(LShadowTheatre$Glow;)I" } : Jvm.MethodName) ({ cls := "ShadowTheatre$Picture", name := "falseBy", desc := "(LShadowTheatre$Glow;)I" } : Jvm.MethodName) ∈ qw_tw := qw_in3 214 rfl rfl
theorem tz_768 : Jvm.Cond.code ({ cls := "ShadowTheatre$Picture", name := "falseBy", desc := "(LShadowTheatre$Glow;)I" } : Jvm.MethodName) prog_5_method_4_code (3 : Nat) (Option.some Jvm.ClassFile.FieldType.int) ∈ qw_tw := qw_in3 215 rfl rfl
theorem tz_769 : Jvm.Cond.methodLink "ShadowTheatre$Picture" (54 : Nat) ({ cls := "java/lang/Integer", name := "bitCount", desc := "(I)I" } : Jvm.MethodName) ∈ qw_tw := qw_in3 216 rfl rfl
theorem tz_770 : Jvm.Cond.methodLink "ShadowTheatre" (180 : Nat) ({ cls := "ShadowTheatre$Glow", name := "dark", desc := "()I" } : Jvm.MethodName) ∈ qw_tw := qw_in3 217 rfl rfl
theorem tz_771 : Jvm.Cond.instanceMethod ({ cls := "ShadowTheatre$Glow", name := "dark", desc := "()I" } : Jvm.MethodName) ∈ qw_tw := qw_in3 218 rfl rfl
theorem tz_772 : Jvm.Cond.selects "ShadowTheatre$Glow" ({ cls := "ShadowTheatre$Glow", name := "dark", desc := "()I" } : Jvm.MethodName) ({ cls := "ShadowTheatre$Glow", name := "dark", desc := "()I" } : Jvm.MethodName) ∈ qw_tw := qw_in3 219 rfl rfl
theorem tz_773 : Jvm.Cond.code ({ cls := "ShadowTheatre$Glow", name := "dark", desc := "()I" } : Jvm.MethodName) prog_4_method_7_code (1 : Nat) (Option.some Jvm.ClassFile.FieldType.int) ∈ qw_tw := qw_in3 220 rfl rfl
theorem tz_774 : Jvm.Cond.methodLink "ShadowTheatre$Glow" (21 : Nat) ({ cls := "java/lang/Integer", name := "bitCount", desc := "(I)I" } : Jvm.MethodName) ∈ qw_tw := qw_in3 221 rfl rfl
theorem tz_776 : Jvm.Cond.instanceMethod ({ cls := "ShadowTheatre", name := "shown", desc := "(I)I" } : Jvm.MethodName) ∈ qw_tw := qw_in3 223 rfl rfl
theorem tz_777 : Jvm.Cond.selects "ShadowTheatre" ({ cls := "ShadowTheatre", name := "shown", desc := "(I)I" } : Jvm.MethodName) ({ cls := "ShadowTheatre", name := "shown", desc := "(I)I" } : Jvm.MethodName) ∈ qw_tw := qw_in3 224 rfl rfl
theorem tz_778 : Jvm.Cond.code ({ cls := "ShadowTheatre", name := "shown", desc := "(I)I" } : Jvm.MethodName) prog_1_method_17_code (3 : Nat) (Option.some Jvm.ClassFile.FieldType.int) ∈ qw_tw := qw_in3 225 rfl rfl
theorem tz_779 : Jvm.Cond.methodLink "ShadowTheatre" (183 : Nat) ({ cls := "ShadowTheatre$Show", name := "shownSteps", desc := "(LShadowTheatre$Cues;)I" } : Jvm.MethodName) ∈ qw_tw := qw_in3 226 rfl rfl
theorem tz_780 : Jvm.Cond.instanceMethod ({ cls := "ShadowTheatre$Show", name := "shownSteps", desc := "(LShadowTheatre$Cues;)I" } : Jvm.MethodName) ∈ qw_tw := qw_in3 227 rfl rfl
theorem tz_781 : Jvm.Cond.selects "ShadowTheatre$Show" ({ cls := "ShadowTheatre$Show", name := "shownSteps", desc := "(LShadowTheatre$Cues;)I" } : Jvm.MethodName) ({ cls := "ShadowTheatre$Show", name := "shownSteps", desc := "(LShadowTheatre$Cues;)I" } : Jvm.MethodName) ∈ qw_tw := qw_in3 228 rfl rfl
theorem tz_782 : Jvm.Cond.code ({ cls := "ShadowTheatre$Show", name := "shownSteps", desc := "(LShadowTheatre$Cues;)I" } : Jvm.MethodName) prog_9_method_12_code (4 : Nat) (Option.some Jvm.ClassFile.FieldType.int) ∈ qw_tw := qw_in3 229 rfl rfl
theorem tz_783 : Jvm.Cond.methodLink "ShadowTheatre$Show" (118 : Nat) ({ cls := "ShadowTheatre$Show", name := "isShownNow", desc := "()Z" } : Jvm.MethodName) ∈ qw_tw := qw_in3 230 rfl rfl
theorem tz_784 : Jvm.Cond.instanceMethod ({ cls := "ShadowTheatre$Show", name := "isShownNow", desc := "()Z" } : Jvm.MethodName) ∈ qw_tw := qw_in3 231 rfl rfl
theorem tz_785 : Jvm.Cond.selects "ShadowTheatre$Show" ({ cls := "ShadowTheatre$Show", name := "isShownNow", desc := "()Z" } : Jvm.MethodName) ({ cls := "ShadowTheatre$Show", name := "isShownNow", desc := "()Z" } : Jvm.MethodName) ∈ qw_tw := qw_in3 232 rfl rfl
theorem tz_786 : Jvm.Cond.code ({ cls := "ShadowTheatre$Show", name := "isShownNow", desc := "()Z" } : Jvm.MethodName) prog_9_method_8_code (1 : Nat) (Option.some Jvm.ClassFile.FieldType.boolean) ∈ qw_tw := qw_in3 233 rfl rfl
theorem tz_787 : Jvm.Cond.methodLink "ShadowTheatre$Show" (93 : Nat) ({ cls := "ShadowTheatre$Picture", name := "isShownBy", desc := "(LShadowTheatre$Glow;)Z" } : Jvm.MethodName) ∈ qw_tw := qw_in3 234 rfl rfl
theorem tz_788 : Jvm.Cond.instanceMethod ({ cls := "ShadowTheatre$Picture", name := "isShownBy", desc := "(LShadowTheatre$Glow;)Z" } : Jvm.MethodName) ∈ qw_tw := qw_in3 235 rfl rfl
theorem tz_789 : Jvm.Cond.selects "ShadowTheatre$Picture" ({ cls := "ShadowTheatre$Picture", name := "isShownBy", desc := "(LShadowTheatre$Glow;)Z" } : Jvm.MethodName) ({ cls := "ShadowTheatre$Picture", name := "isShownBy", desc := "(LShadowTheatre$Glow;)Z" } : Jvm.MethodName) ∈ qw_tw := qw_in3 236 rfl rfl
theorem tz_790 : Jvm.Cond.code ({ cls := "ShadowTheatre$Picture", name := "isShownBy", desc := "(LShadowTheatre$Glow;)Z" } : Jvm.MethodName) prog_5_method_5_code (2 : Nat) (Option.some Jvm.ClassFile.FieldType.boolean) ∈ qw_tw := qw_in3 237 rfl rfl
theorem tz_791 : Jvm.Cond.methodLink "ShadowTheatre$Picture" (59 : Nat) ({ cls := "ShadowTheatre$Picture", name := "falseBy", desc := "(LShadowTheatre$Glow;)I" } : Jvm.MethodName) ∈ qw_tw := qw_in3 238 rfl rfl
theorem tz_792 : Jvm.Cond.methodLink "ShadowTheatre" (187 : Nat) ({ cls := "ShadowTheatre$Show", name := "leastBit", desc := "(I)I" } : Jvm.MethodName) ∈ qw_tw := qw_in3 239 rfl rfl
theorem tz_793 : Jvm.Cond.methodLink "ShadowTheatre" (190 : Nat) ({ cls := "java/lang/Integer", name := "bitCount", desc := "(I)I" } : Jvm.MethodName) ∈ qw_tw := qw_in4 0 rfl rfl
theorem tz_795 : Jvm.Cond.instanceMethod ({ cls := "ShadowTheatre", name := "touched", desc := "(I)I" } : Jvm.MethodName) ∈ qw_tw := qw_in4 2 rfl rfl
theorem tz_796 : Jvm.Cond.selects "ShadowTheatre" ({ cls := "ShadowTheatre", name := "touched", desc := "(I)I" } : Jvm.MethodName) ({ cls := "ShadowTheatre", name := "touched", desc := "(I)I" } : Jvm.MethodName) ∈ qw_tw := qw_in4 3 rfl rfl
theorem tz_797 : Jvm.Cond.code ({ cls := "ShadowTheatre", name := "touched", desc := "(I)I" } : Jvm.MethodName) prog_1_method_18_code (2 : Nat) (Option.some Jvm.ClassFile.FieldType.int) ∈ qw_tw := qw_in4 4 rfl rfl
theorem tz_798 : Jvm.Cond.methodLink "ShadowTheatre" (195 : Nat) ({ cls := "ShadowTheatre$Show", name := "firstTouch", desc := "(I)I" } : Jvm.MethodName) ∈ qw_tw := qw_in4 5 rfl rfl
theorem tz_799 : Jvm.Cond.instanceMethod ({ cls := "ShadowTheatre$Show", name := "firstTouch", desc := "(I)I" } : Jvm.MethodName) ∈ qw_tw := qw_in4 6 rfl rfl
theorem tz_800 : Jvm.Cond.selects "ShadowTheatre$Show" ({ cls := "ShadowTheatre$Show", name := "firstTouch", desc := "(I)I" } : Jvm.MethodName) ({ cls := "ShadowTheatre$Show", name := "firstTouch", desc := "(I)I" } : Jvm.MethodName) ∈ qw_tw := qw_in4 7 rfl rfl
theorem tz_801 : Jvm.Cond.code ({ cls := "ShadowTheatre$Show", name := "firstTouch", desc := "(I)I" } : Jvm.MethodName) prog_9_method_13_code (4 : Nat) (Option.some Jvm.ClassFile.FieldType.int) ∈ qw_tw := qw_in4 8 rfl rfl
theorem tz_802 : Jvm.Cond.methodLink "ShadowTheatre$Show" (122 : Nat) ({ cls := "ShadowTheatre$Stage", name := "touchingPair", desc := "()I" } : Jvm.MethodName) ∈ qw_tw := qw_in4 9 rfl rfl
theorem tz_803 : Jvm.Cond.instanceMethod ({ cls := "ShadowTheatre$Stage", name := "touchingPair", desc := "()I" } : Jvm.MethodName) ∈ qw_tw := qw_in4 10 rfl rfl
theorem tz_804 : Jvm.Cond.selects "ShadowTheatre$Stage" ({ cls := "ShadowTheatre$Stage", name := "touchingPair", desc := "()I" } : Jvm.MethodName) ({ cls := "ShadowTheatre$Stage", name := "touchingPair", desc := "()I" } : Jvm.MethodName) ∈ qw_tw := qw_in4 11 rfl rfl
theorem tz_805 : Jvm.Cond.code ({ cls := "ShadowTheatre$Stage", name := "touchingPair", desc := "()I" } : Jvm.MethodName) prog_10_method_14_code (3 : Nat) (Option.some Jvm.ClassFile.FieldType.int) ∈ qw_tw := qw_in4 12 rfl rfl
theorem tz_807 : Jvm.Cond.instanceMethod ({ cls := "ShadowTheatre", name := "darkest", desc := "()I" } : Jvm.MethodName) ∈ qw_tw := qw_in4 14 rfl rfl
theorem tz_808 : Jvm.Cond.selects "ShadowTheatre" ({ cls := "ShadowTheatre", name := "darkest", desc := "()I" } : Jvm.MethodName) ({ cls := "ShadowTheatre", name := "darkest", desc := "()I" } : Jvm.MethodName) ∈ qw_tw := qw_in4 15 rfl rfl
theorem tz_809 : Jvm.Cond.code ({ cls := "ShadowTheatre", name := "darkest", desc := "()I" } : Jvm.MethodName) prog_1_method_19_code (1 : Nat) (Option.some Jvm.ClassFile.FieldType.int) ∈ qw_tw := qw_in4 16 rfl rfl
theorem tz_810 : Jvm.Cond.methodLink "ShadowTheatre" (198 : Nat) ({ cls := "ShadowTheatre$Show", name := "darkestStep", desc := "()I" } : Jvm.MethodName) ∈ qw_tw := qw_in4 17 rfl rfl
theorem tz_811 : Jvm.Cond.instanceMethod ({ cls := "ShadowTheatre$Show", name := "darkestStep", desc := "()I" } : Jvm.MethodName) ∈ qw_tw := qw_in4 18 rfl rfl
theorem tz_812 : Jvm.Cond.selects "ShadowTheatre$Show" ({ cls := "ShadowTheatre$Show", name := "darkestStep", desc := "()I" } : Jvm.MethodName) ({ cls := "ShadowTheatre$Show", name := "darkestStep", desc := "()I" } : Jvm.MethodName) ∈ qw_tw := qw_in4 19 rfl rfl
theorem tz_813 : Jvm.Cond.code ({ cls := "ShadowTheatre$Show", name := "darkestStep", desc := "()I" } : Jvm.MethodName) prog_9_method_14_code (4 : Nat) (Option.some Jvm.ClassFile.FieldType.int) ∈ qw_tw := qw_in4 20 rfl rfl
theorem tz_814 : Jvm.Cond.methodLink "ShadowTheatre$Show" (126 : Nat) ({ cls := "ShadowTheatre$Glow", name := "dark", desc := "()I" } : Jvm.MethodName) ∈ qw_tw := qw_in4 21 rfl rfl
theorem tz_819 : Jvm.Cond.methodLink "ShadowTheatre" (201 : Nat) ({ cls := "ShadowTheatre$Planner", name := "planHang", desc := "(II)V" } : Jvm.MethodName) ∈ qw_tw := qw_in4 26 rfl rfl
theorem tz_820 : Jvm.Cond.instanceMethod ({ cls := "ShadowTheatre$Planner", name := "planHang", desc := "(II)V" } : Jvm.MethodName) ∈ qw_tw := qw_in4 27 rfl rfl
theorem tz_821 : Jvm.Cond.selects "ShadowTheatre$Planner" ({ cls := "ShadowTheatre$Planner", name := "planHang", desc := "(II)V" } : Jvm.MethodName) ({ cls := "ShadowTheatre$Planner", name := "planHang", desc := "(II)V" } : Jvm.MethodName) ∈ qw_tw := qw_in4 28 rfl rfl
theorem tz_822 : Jvm.Cond.code ({ cls := "ShadowTheatre$Planner", name := "planHang", desc := "(II)V" } : Jvm.MethodName) prog_6_method_4_code (5 : Nat) (Option.none : Option Jvm.ClassFile.FieldType) ∈ qw_tw := qw_in4 29 rfl rfl
theorem tz_823 : Jvm.Cond.methodLink "ShadowTheatre$Planner" (39 : Nat) ({ cls := "ShadowTheatre$Planner", name := "findEnds", desc := "(II)V" } : Jvm.MethodName) ∈ qw_tw := qw_in4 30 rfl rfl
theorem tz_825 : Jvm.Cond.instanceMethod ({ cls := "ShadowTheatre$Planner", name := "findEnds", desc := "(II)V" } : Jvm.MethodName) ∈ qw_tw := qw_in4 32 rfl rfl
theorem tz_826 : Jvm.Cond.code ({ cls := "ShadowTheatre$Planner", name := "findEnds", desc := "(II)V" } : Jvm.MethodName) prog_6_method_5_code (5 : Nat) (Option.none : Option Jvm.ClassFile.FieldType) ∈ qw_tw := qw_in4 33 rfl rfl
theorem tz_827 : Jvm.Cond.methodLink "ShadowTheatre$Planner" (78 : Nat) ({ cls := "java/lang/Math", name := "min", desc := "(II)I" } : Jvm.MethodName) ∈ qw_tw := qw_in4 34 rfl rfl
theorem tz_828 : Jvm.Cond.methodLink "ShadowTheatre$Planner" (68 : Nat) ({ cls := "ShadowTheatre$Stage", name := "put", desc := "(III)V" } : Jvm.MethodName) ∈ qw_tw := qw_in4 35 rfl rfl
theorem tz_829 : Jvm.Cond.instanceMethod ({ cls := "ShadowTheatre$Stage", name := "put", desc := "(III)V" } : Jvm.MethodName) ∈ qw_tw := qw_in4 36 rfl rfl
theorem tz_830 : Jvm.Cond.selects "ShadowTheatre$Stage" ({ cls := "ShadowTheatre$Stage", name := "put", desc := "(III)V" } : Jvm.MethodName) ({ cls := "ShadowTheatre$Stage", name := "put", desc := "(III)V" } : Jvm.MethodName) ∈ qw_tw := qw_in4 37 rfl rfl
theorem tz_831 : Jvm.Cond.code ({ cls := "ShadowTheatre$Stage", name := "put", desc := "(III)V" } : Jvm.MethodName) prog_10_method_5_code (4 : Nat) (Option.none : Option Jvm.ClassFile.FieldType) ∈ qw_tw := qw_in4 38 rfl rfl
theorem tz_832 : Jvm.Cond.methodLink "ShadowTheatre$Planner" (84 : Nat) ({ cls := "ShadowTheatre$Show", name := "doCues", desc := "(II)V" } : Jvm.MethodName) ∈ qw_tw := qw_in4 39 rfl rfl
theorem tz_833 : Jvm.Cond.methodLink "ShadowTheatre$Planner" (87 : Nat) ({ cls := "ShadowTheatre$Stage", name := "depthOf", desc := "(I)I" } : Jvm.MethodName) ∈ qw_tw := qw_in4 40 rfl rfl
theorem tz_834 : Jvm.Cond.methodLink "ShadowTheatre$Planner" (91 : Nat) ({ cls := "ShadowTheatre$Stage", name := "placeOf", desc := "(I)I" } : Jvm.MethodName) ∈ qw_tw := qw_in4 41 rfl rfl
theorem tz_835 : Jvm.Cond.methodLink "ShadowTheatre$Planner" (43 : Nat) ({ cls := "ShadowTheatre$Show", name := "goTo", desc := "(I)V" } : Jvm.MethodName) ∈ qw_tw := qw_in4 42 rfl rfl
theorem tz_836 : Jvm.Cond.methodLink "ShadowTheatre$Planner" (47 : Nat) ({ cls := "ShadowTheatre$Show", name := "isOut", desc := "(I)Z" } : Jvm.MethodName) ∈ qw_tw := qw_in4 43 rfl rfl
theorem tz_837 : Jvm.Cond.methodLink "ShadowTheatre$Planner" (51 : Nat) ({ cls := "ShadowTheatre$Stage", name := "shine", desc := "(ZI)V" } : Jvm.MethodName) ∈ qw_tw := qw_in4 44 rfl rfl
theorem tz_838 : Jvm.Cond.methodLink "ShadowTheatre$Planner" (60 : Nat) ({ cls := "ShadowTheatre$Glow", name := "become", desc := "(LShadowTheatre$Glow;)V" } : Jvm.MethodName) ∈ qw_tw := qw_in4 45 rfl rfl
theorem tz_839 : Jvm.Cond.instanceMethod ({ cls := "ShadowTheatre$Glow", name := "become", desc := "(LShadowTheatre$Glow;)V" } : Jvm.MethodName) ∈ qw_tw := qw_in4 46 rfl rfl
theorem tz_840 : Jvm.Cond.selects "ShadowTheatre$Glow" ({ cls := "ShadowTheatre$Glow", name := "become", desc := "(LShadowTheatre$Glow;)V" } : Jvm.MethodName) ({ cls := "ShadowTheatre$Glow", name := "become", desc := "(LShadowTheatre$Glow;)V" } : Jvm.MethodName) ∈ qw_tw := qw_in4 47 rfl rfl
theorem tz_841 : Jvm.Cond.code ({ cls := "ShadowTheatre$Glow", name := "become", desc := "(LShadowTheatre$Glow;)V" } : Jvm.MethodName) prog_4_method_3_code (2 : Nat) (Option.none : Option Jvm.ClassFile.FieldType) ∈ qw_tw := qw_in4 48 rfl rfl
theorem tz_842 : Jvm.Cond.methodLink "ShadowTheatre$Planner" (64 : Nat) ({ cls := "ShadowTheatre$Planner", name := "decide", desc := "(III)V" } : Jvm.MethodName) ∈ qw_tw := qw_in4 49 rfl rfl
theorem tz_844 : Jvm.Cond.instanceMethod ({ cls := "ShadowTheatre$Planner", name := "decide", desc := "(III)V" } : Jvm.MethodName) ∈ qw_tw := qw_in4 51 rfl rfl
theorem tz_845 : Jvm.Cond.code ({ cls := "ShadowTheatre$Planner", name := "decide", desc := "(III)V" } : Jvm.MethodName) prog_6_method_3_code (4 : Nat) (Option.none : Option Jvm.ClassFile.FieldType) ∈ qw_tw := qw_in4 52 rfl rfl
theorem tz_846 : Jvm.Cond.methodLink "ShadowTheatre$Planner" (71 : Nat) ({ cls := "ShadowTheatre$Stage", name := "dimBy", desc := "(I)V" } : Jvm.MethodName) ∈ qw_tw := qw_in4 53 rfl rfl
theorem tz_847 : Jvm.Cond.instanceMethod ({ cls := "ShadowTheatre$Stage", name := "dimBy", desc := "(I)V" } : Jvm.MethodName) ∈ qw_tw := qw_in4 54 rfl rfl
theorem tz_848 : Jvm.Cond.selects "ShadowTheatre$Stage" ({ cls := "ShadowTheatre$Stage", name := "dimBy", desc := "(I)V" } : Jvm.MethodName) ({ cls := "ShadowTheatre$Stage", name := "dimBy", desc := "(I)V" } : Jvm.MethodName) ∈ qw_tw := qw_in4 55 rfl rfl
theorem tz_849 : Jvm.Cond.code ({ cls := "ShadowTheatre$Stage", name := "dimBy", desc := "(I)V" } : Jvm.MethodName) prog_10_method_13_code (2 : Nat) (Option.none : Option Jvm.ClassFile.FieldType) ∈ qw_tw := qw_in4 56 rfl rfl
theorem tz_850 : Jvm.Cond.methodLink "ShadowTheatre$Planner" (74 : Nat) ({ cls := "ShadowTheatre$Show", name := "falseNow", desc := "()I" } : Jvm.MethodName) ∈ qw_tw := qw_in4 57 rfl rfl
theorem tz_851 : Jvm.Cond.methodLink "ShadowTheatre" (205 : Nat) ({ cls := "ShadowTheatre$Planner", name := "answer", desc := "(I)I" } : Jvm.MethodName) ∈ qw_tw := qw_in4 58 rfl rfl
theorem tz_852 : Jvm.Cond.instanceMethod ({ cls := "ShadowTheatre$Planner", name := "answer", desc := "(I)I" } : Jvm.MethodName) ∈ qw_tw := qw_in4 59 rfl rfl
theorem tz_853 : Jvm.Cond.selects "ShadowTheatre$Planner" ({ cls := "ShadowTheatre$Planner", name := "answer", desc := "(I)I" } : Jvm.MethodName) ({ cls := "ShadowTheatre$Planner", name := "answer", desc := "(I)I" } : Jvm.MethodName) ∈ qw_tw := qw_in4 60 rfl rfl
theorem tz_854 : Jvm.Cond.code ({ cls := "ShadowTheatre$Planner", name := "answer", desc := "(I)I" } : Jvm.MethodName) prog_6_method_2_code (2 : Nat) (Option.some Jvm.ClassFile.FieldType.int) ∈ qw_tw := qw_in4 61 rfl rfl
theorem tz_859 : Jvm.Cond.methodLink "ShadowTheatre" (208 : Nat) ({ cls := "ShadowTheatre$Planner", name := "planShift", desc := "(I)V" } : Jvm.MethodName) ∈ qw_tw := qw_in4 66 rfl rfl
theorem tz_860 : Jvm.Cond.instanceMethod ({ cls := "ShadowTheatre$Planner", name := "planShift", desc := "(I)V" } : Jvm.MethodName) ∈ qw_tw := qw_in4 67 rfl rfl
theorem tz_861 : Jvm.Cond.selects "ShadowTheatre$Planner" ({ cls := "ShadowTheatre$Planner", name := "planShift", desc := "(I)V" } : Jvm.MethodName) ({ cls := "ShadowTheatre$Planner", name := "planShift", desc := "(I)V" } : Jvm.MethodName) ∈ qw_tw := qw_in4 68 rfl rfl
theorem tz_862 : Jvm.Cond.code ({ cls := "ShadowTheatre$Planner", name := "planShift", desc := "(I)V" } : Jvm.MethodName) prog_6_method_6_code (3 : Nat) (Option.none : Option Jvm.ClassFile.FieldType) ∈ qw_tw := qw_in4 69 rfl rfl
theorem tz_867 : Jvm.Cond.methodLink "ShadowTheatre" (211 : Nat) ({ cls := "ShadowTheatre$Planner", name := "planMore", desc := "()V" } : Jvm.MethodName) ∈ qw_tw := qw_in4 74 rfl rfl
theorem tz_868 : Jvm.Cond.instanceMethod ({ cls := "ShadowTheatre$Planner", name := "planMore", desc := "()V" } : Jvm.MethodName) ∈ qw_tw := qw_in4 75 rfl rfl
theorem tz_869 : Jvm.Cond.selects "ShadowTheatre$Planner" ({ cls := "ShadowTheatre$Planner", name := "planMore", desc := "()V" } : Jvm.MethodName) ({ cls := "ShadowTheatre$Planner", name := "planMore", desc := "()V" } : Jvm.MethodName) ∈ qw_tw := qw_in4 76 rfl rfl
theorem tz_870 : Jvm.Cond.code ({ cls := "ShadowTheatre$Planner", name := "planMore", desc := "()V" } : Jvm.MethodName) prog_6_method_7_code (4 : Nat) (Option.none : Option Jvm.ClassFile.FieldType) ∈ qw_tw := qw_in4 77 rfl rfl
theorem tz_871 : Jvm.Cond.methodLink "ShadowTheatre$Planner" (98 : Nat) ({ cls := "ShadowTheatre$Show", name := "lightUp", desc := "(I)V" } : Jvm.MethodName) ∈ qw_tw := qw_in4 78 rfl rfl
theorem tz_872 : Jvm.Cond.methodLink "ShadowTheatre$Planner" (101 : Nat) ({ cls := "ShadowTheatre$Show", name := "isShownNow", desc := "()Z" } : Jvm.MethodName) ∈ qw_tw := qw_in4 79 rfl rfl
theorem tz_873 : Jvm.Cond.methodLink "ShadowTheatre$Planner" (114 : Nat) ({ cls := "ShadowTheatre$Planner", name := "isShownAfter", desc := "(II)Z" } : Jvm.MethodName) ∈ qw_tw := qw_in4 80 rfl rfl
theorem tz_875 : Jvm.Cond.instanceMethod ({ cls := "ShadowTheatre$Planner", name := "isShownAfter", desc := "(II)Z" } : Jvm.MethodName) ∈ qw_tw := qw_in4 82 rfl rfl
theorem tz_876 : Jvm.Cond.code ({ cls := "ShadowTheatre$Planner", name := "isShownAfter", desc := "(II)Z" } : Jvm.MethodName) prog_6_method_8_code (9 : Nat) (Option.some Jvm.ClassFile.FieldType.boolean) ∈ qw_tw := qw_in4 83 rfl rfl
theorem tz_877 : Jvm.Cond.methodLink "ShadowTheatre$Planner" (118 : Nat) ({ cls := "ShadowTheatre$Stage", name := "move", desc := "(II)V" } : Jvm.MethodName) ∈ qw_tw := qw_in4 84 rfl rfl
theorem tz_882 : Jvm.Cond.methodLink "ShadowTheatre" (214 : Nat) ({ cls := "ShadowTheatre$Planner", name := "planLeave", desc := "(I)V" } : Jvm.MethodName) ∈ qw_tw := qw_in4 89 rfl rfl
theorem tz_883 : Jvm.Cond.instanceMethod ({ cls := "ShadowTheatre$Planner", name := "planLeave", desc := "(I)V" } : Jvm.MethodName) ∈ qw_tw := qw_in4 90 rfl rfl
theorem tz_884 : Jvm.Cond.selects "ShadowTheatre$Planner" ({ cls := "ShadowTheatre$Planner", name := "planLeave", desc := "(I)V" } : Jvm.MethodName) ({ cls := "ShadowTheatre$Planner", name := "planLeave", desc := "(I)V" } : Jvm.MethodName) ∈ qw_tw := qw_in4 91 rfl rfl
theorem tz_885 : Jvm.Cond.code ({ cls := "ShadowTheatre$Planner", name := "planLeave", desc := "(I)V" } : Jvm.MethodName) prog_6_method_9_code (5 : Nat) (Option.none : Option Jvm.ClassFile.FieldType) ∈ qw_tw := qw_in4 92 rfl rfl
theorem tz_886 : Jvm.Cond.methodLink "ShadowTheatre$Planner" (121 : Nat) ({ cls := "ShadowTheatre$Planner", name := "isShownWithout", desc := "(II)Z" } : Jvm.MethodName) ∈ qw_tw := qw_in4 93 rfl rfl
theorem tz_888 : Jvm.Cond.instanceMethod ({ cls := "ShadowTheatre$Planner", name := "isShownWithout", desc := "(II)Z" } : Jvm.MethodName) ∈ qw_tw := qw_in4 95 rfl rfl
theorem tz_889 : Jvm.Cond.code ({ cls := "ShadowTheatre$Planner", name := "isShownWithout", desc := "(II)Z" } : Jvm.MethodName) prog_6_method_10_code (3 : Nat) (Option.some Jvm.ClassFile.FieldType.boolean) ∈ qw_tw := qw_in4 96 rfl rfl
theorem tz_894 : Jvm.Cond.methodLink "ShadowTheatre" (220 : Nat) ({ cls := "ShadowTheatre$Witness", name := "add", desc := "(III)I" } : Jvm.MethodName) ∈ qw_tw := qw_in4 101 rfl rfl
theorem tz_895 : Jvm.Cond.instanceMethod ({ cls := "ShadowTheatre$Witness", name := "add", desc := "(III)I" } : Jvm.MethodName) ∈ qw_tw := qw_in4 102 rfl rfl
theorem tz_896 : Jvm.Cond.selects "ShadowTheatre$Witness" ({ cls := "ShadowTheatre$Witness", name := "add", desc := "(III)I" } : Jvm.MethodName) ({ cls := "ShadowTheatre$Witness", name := "add", desc := "(III)I" } : Jvm.MethodName) ∈ qw_tw := qw_in4 103 rfl rfl
theorem tz_897 : Jvm.Cond.code ({ cls := "ShadowTheatre$Witness", name := "add", desc := "(III)I" } : Jvm.MethodName) prog_12_method_2_code (4 : Nat) (Option.some Jvm.ClassFile.FieldType.int) ∈ qw_tw := qw_in4 104 rfl rfl
theorem tz_898 : Jvm.Cond.methodLink "ShadowTheatre$Witness" (35 : Nat) ({ cls := "ShadowTheatre$Row", name := "add", desc := "(I)I" } : Jvm.MethodName) ∈ qw_tw := qw_in4 105 rfl rfl
theorem tz_904 : Jvm.Cond.instanceMethod ({ cls := "ShadowTheatre", name := "never", desc := "()I" } : Jvm.MethodName) ∈ qw_tw := qw_in4 111 rfl rfl
theorem tz_905 : Jvm.Cond.selects "ShadowTheatre" ({ cls := "ShadowTheatre", name := "never", desc := "()I" } : Jvm.MethodName) ({ cls := "ShadowTheatre", name := "never", desc := "()I" } : Jvm.MethodName) ∈ qw_tw := qw_in4 112 rfl rfl
theorem tz_906 : Jvm.Cond.code ({ cls := "ShadowTheatre", name := "never", desc := "()I" } : Jvm.MethodName) prog_1_method_26_code (1 : Nat) (Option.some Jvm.ClassFile.FieldType.int) ∈ qw_tw := qw_in4 113 rfl rfl
theorem tz_907 : Jvm.Cond.methodLink "ShadowTheatre" (222 : Nat) ({ cls := "ShadowTheatre$Witness", name := "neverSteps", desc := "()I" } : Jvm.MethodName) ∈ qw_tw := qw_in4 114 rfl rfl
theorem tz_908 : Jvm.Cond.instanceMethod ({ cls := "ShadowTheatre$Witness", name := "neverSteps", desc := "()I" } : Jvm.MethodName) ∈ qw_tw := qw_in4 115 rfl rfl
theorem tz_909 : Jvm.Cond.selects "ShadowTheatre$Witness" ({ cls := "ShadowTheatre$Witness", name := "neverSteps", desc := "()I" } : Jvm.MethodName) ({ cls := "ShadowTheatre$Witness", name := "neverSteps", desc := "()I" } : Jvm.MethodName) ∈ qw_tw := qw_in4 116 rfl rfl
theorem tz_910 : Jvm.Cond.code ({ cls := "ShadowTheatre$Witness", name := "neverSteps", desc := "()I" } : Jvm.MethodName) prog_12_method_6_code (4 : Nat) (Option.some Jvm.ClassFile.FieldType.int) ∈ qw_tw := qw_in4 117 rfl rfl
theorem tz_911 : Jvm.Cond.methodLink "ShadowTheatre$Witness" (88 : Nat) ({ cls := "ShadowTheatre$Cues", name := "steps", desc := "()I" } : Jvm.MethodName) ∈ qw_tw := qw_in4 118 rfl rfl
theorem tz_912 : Jvm.Cond.instanceMethod ({ cls := "ShadowTheatre$Cues", name := "steps", desc := "()I" } : Jvm.MethodName) ∈ qw_tw := qw_in4 119 rfl rfl
theorem tz_913 : Jvm.Cond.selects "ShadowTheatre$Cues" ({ cls := "ShadowTheatre$Cues", name := "steps", desc := "()I" } : Jvm.MethodName) ({ cls := "ShadowTheatre$Cues", name := "steps", desc := "()I" } : Jvm.MethodName) ∈ qw_tw := qw_in4 120 rfl rfl
theorem tz_914 : Jvm.Cond.code ({ cls := "ShadowTheatre$Cues", name := "steps", desc := "()I" } : Jvm.MethodName) prog_3_method_8_code (3 : Nat) (Option.some Jvm.ClassFile.FieldType.int) ∈ qw_tw := qw_in4 121 rfl rfl
theorem tz_915 : Jvm.Cond.methodLink "ShadowTheatre$Cues" (43 : Nat) ({ cls := "ShadowTheatre$Cues", name := "figureOf", desc := "(I)I" } : Jvm.MethodName) ∈ qw_tw := qw_in4 122 rfl rfl
theorem tz_916 : Jvm.Cond.methodLink "ShadowTheatre$Witness" (91 : Nat) ({ cls := "ShadowTheatre$Show", name := "open", desc := "()V" } : Jvm.MethodName) ∈ qw_tw := qw_in4 123 rfl rfl
theorem tz_917 : Jvm.Cond.instanceMethod ({ cls := "ShadowTheatre$Show", name := "open", desc := "()V" } : Jvm.MethodName) ∈ qw_tw := qw_in4 124 rfl rfl
theorem tz_918 : Jvm.Cond.selects "ShadowTheatre$Show" ({ cls := "ShadowTheatre$Show", name := "open", desc := "()V" } : Jvm.MethodName) ({ cls := "ShadowTheatre$Show", name := "open", desc := "()V" } : Jvm.MethodName) ∈ qw_tw := qw_in4 125 rfl rfl
theorem tz_919 : Jvm.Cond.code ({ cls := "ShadowTheatre$Show", name := "open", desc := "()V" } : Jvm.MethodName) prog_9_method_3_code (1 : Nat) (Option.none : Option Jvm.ClassFile.FieldType) ∈ qw_tw := qw_in4 126 rfl rfl
theorem tz_920 : Jvm.Cond.methodLink "ShadowTheatre$Witness" (94 : Nat) ({ cls := "ShadowTheatre$Witness", name := "agrees", desc := "(I)Z" } : Jvm.MethodName) ∈ qw_tw := qw_in4 127 rfl rfl
theorem tz_922 : Jvm.Cond.instanceMethod ({ cls := "ShadowTheatre$Witness", name := "agrees", desc := "(I)Z" } : Jvm.MethodName) ∈ qw_tw := qw_in4 129 rfl rfl
theorem tz_923 : Jvm.Cond.code ({ cls := "ShadowTheatre$Witness", name := "agrees", desc := "(I)Z" } : Jvm.MethodName) prog_12_method_4_code (4 : Nat) (Option.some Jvm.ClassFile.FieldType.boolean) ∈ qw_tw := qw_in4 130 rfl rfl
theorem tz_924 : Jvm.Cond.methodLink "ShadowTheatre$Witness" (46 : Nat) ({ cls := "ShadowTheatre$Witness", name := "watchedSteps", desc := "()I" } : Jvm.MethodName) ∈ qw_tw := qw_in4 131 rfl rfl
theorem tz_926 : Jvm.Cond.instanceMethod ({ cls := "ShadowTheatre$Witness", name := "watchedSteps", desc := "()I" } : Jvm.MethodName) ∈ qw_tw := qw_in4 133 rfl rfl
theorem tz_927 : Jvm.Cond.code ({ cls := "ShadowTheatre$Witness", name := "watchedSteps", desc := "()I" } : Jvm.MethodName) prog_12_method_3_code (3 : Nat) (Option.some Jvm.ClassFile.FieldType.int) ∈ qw_tw := qw_in4 134 rfl rfl
theorem tz_928 : Jvm.Cond.methodLink "ShadowTheatre$Witness" (43 : Nat) ({ cls := "ShadowTheatre$Row", name := "item", desc := "(I)I" } : Jvm.MethodName) ∈ qw_tw := qw_in4 135 rfl rfl
theorem tz_929 : Jvm.Cond.methodLink "ShadowTheatre$Witness" (54 : Nat) ({ cls := "ShadowTheatre$Cues", name := "figureOf", desc := "(I)I" } : Jvm.MethodName) ∈ qw_tw := qw_in4 136 rfl rfl
theorem tz_930 : Jvm.Cond.methodLink "ShadowTheatre$Witness" (59 : Nat) ({ cls := "ShadowTheatre$Cues", name := "whitherOf", desc := "(I)I" } : Jvm.MethodName) ∈ qw_tw := qw_in4 137 rfl rfl
theorem tz_931 : Jvm.Cond.methodLink "ShadowTheatre$Witness" (62 : Nat) ({ cls := "ShadowTheatre$Stage", name := "move", desc := "(II)V" } : Jvm.MethodName) ∈ qw_tw := qw_in4 138 rfl rfl
theorem tz_932 : Jvm.Cond.methodLink "ShadowTheatre$Witness" (68 : Nat) ({ cls := "ShadowTheatre$Show", name := "isOut", desc := "(I)Z" } : Jvm.MethodName) ∈ qw_tw := qw_in4 139 rfl rfl
theorem tz_933 : Jvm.Cond.methodLink "ShadowTheatre$Witness" (72 : Nat) ({ cls := "ShadowTheatre$Stage", name := "shine", desc := "(ZI)V" } : Jvm.MethodName) ∈ qw_tw := qw_in4 140 rfl rfl
theorem tz_934 : Jvm.Cond.methodLink "ShadowTheatre$Witness" (76 : Nat) ({ cls := "ShadowTheatre$Witness", name := "agreesIn", desc := "(I)Z" } : Jvm.MethodName) ∈ qw_tw := qw_in4 141 rfl rfl
theorem tz_936 : Jvm.Cond.instanceMethod ({ cls := "ShadowTheatre$Witness", name := "agreesIn", desc := "(I)Z" } : Jvm.MethodName) ∈ qw_tw := qw_in4 143 rfl rfl
theorem tz_937 : Jvm.Cond.code ({ cls := "ShadowTheatre$Witness", name := "agreesIn", desc := "(I)Z" } : Jvm.MethodName) prog_12_method_5_code (5 : Nat) (Option.some Jvm.ClassFile.FieldType.boolean) ∈ qw_tw := qw_in4 144 rfl rfl
theorem tz_938 : Jvm.Cond.methodLink "ShadowTheatre$Witness" (83 : Nat) ({ cls := "ShadowTheatre$Glow", name := "lightOf", desc := "(I)I" } : Jvm.MethodName) ∈ qw_tw := qw_in4 145 rfl rfl
theorem tz_943 : Jvm.Cond.methodLink "ShadowTheatre" (225 : Nat) ({ cls := "ShadowTheatre$Witness", name := "colours", desc := "(I)I" } : Jvm.MethodName) ∈ qw_tw := qw_in4 150 rfl rfl
theorem tz_944 : Jvm.Cond.instanceMethod ({ cls := "ShadowTheatre$Witness", name := "colours", desc := "(I)I" } : Jvm.MethodName) ∈ qw_tw := qw_in4 151 rfl rfl
theorem tz_945 : Jvm.Cond.selects "ShadowTheatre$Witness" ({ cls := "ShadowTheatre$Witness", name := "colours", desc := "(I)I" } : Jvm.MethodName) ({ cls := "ShadowTheatre$Witness", name := "colours", desc := "(I)I" } : Jvm.MethodName) ∈ qw_tw := qw_in4 152 rfl rfl
theorem tz_946 : Jvm.Cond.code ({ cls := "ShadowTheatre$Witness", name := "colours", desc := "(I)I" } : Jvm.MethodName) prog_12_method_7_code (4 : Nat) (Option.some Jvm.ClassFile.FieldType.int) ∈ qw_tw := qw_in4 153 rfl rfl
theorem tz_947 : Jvm.Cond.methodLink "ShadowTheatre$Witness" (97 : Nat) ({ cls := "ShadowTheatre$Stage", name := "paint", desc := "(II)V" } : Jvm.MethodName) ∈ qw_tw := qw_in4 154 rfl rfl
theorem tz_948 : Jvm.Cond.instanceMethod ({ cls := "ShadowTheatre$Stage", name := "paint", desc := "(II)V" } : Jvm.MethodName) ∈ qw_tw := qw_in4 155 rfl rfl
theorem tz_949 : Jvm.Cond.selects "ShadowTheatre$Stage" ({ cls := "ShadowTheatre$Stage", name := "paint", desc := "(II)V" } : Jvm.MethodName) ({ cls := "ShadowTheatre$Stage", name := "paint", desc := "(II)V" } : Jvm.MethodName) ∈ qw_tw := qw_in4 156 rfl rfl
theorem tz_950 : Jvm.Cond.code ({ cls := "ShadowTheatre$Stage", name := "paint", desc := "(II)V" } : Jvm.MethodName) prog_10_method_6_code (3 : Nat) (Option.none : Option Jvm.ClassFile.FieldType) ∈ qw_tw := qw_in4 157 rfl rfl
theorem tz_951 : Jvm.Cond.methodLink "ShadowTheatre" (228 : Nat) ({ cls := "ShadowTheatre$Witness", name := "depths", desc := "(I)I" } : Jvm.MethodName) ∈ qw_tw := qw_in4 158 rfl rfl
theorem tz_952 : Jvm.Cond.instanceMethod ({ cls := "ShadowTheatre$Witness", name := "depths", desc := "(I)I" } : Jvm.MethodName) ∈ qw_tw := qw_in4 159 rfl rfl
theorem tz_953 : Jvm.Cond.selects "ShadowTheatre$Witness" ({ cls := "ShadowTheatre$Witness", name := "depths", desc := "(I)I" } : Jvm.MethodName) ({ cls := "ShadowTheatre$Witness", name := "depths", desc := "(I)I" } : Jvm.MethodName) ∈ qw_tw := qw_in4 160 rfl rfl
theorem tz_954 : Jvm.Cond.code ({ cls := "ShadowTheatre$Witness", name := "depths", desc := "(I)I" } : Jvm.MethodName) prog_12_method_8_code (4 : Nat) (Option.some Jvm.ClassFile.FieldType.int) ∈ qw_tw := qw_in4 161 rfl rfl
theorem tz_955 : Jvm.Cond.methodLink "ShadowTheatre$Witness" (100 : Nat) ({ cls := "ShadowTheatre$Stage", name := "placeOf", desc := "(I)I" } : Jvm.MethodName) ∈ qw_tw := qw_in4 162 rfl rfl
theorem tz_956 : Jvm.Cond.methodLink "ShadowTheatre$Witness" (103 : Nat) ({ cls := "ShadowTheatre$Stage", name := "put", desc := "(III)V" } : Jvm.MethodName) ∈ qw_tw := qw_in4 163 rfl rfl
theorem tz_961 : Jvm.Cond.methodLink "ShadowTheatre" (231 : Nat) ({ cls := "ShadowTheatre$Witness", name := "cellToAsk", desc := "(II)I" } : Jvm.MethodName) ∈ qw_tw := qw_in4 168 rfl rfl
theorem tz_962 : Jvm.Cond.instanceMethod ({ cls := "ShadowTheatre$Witness", name := "cellToAsk", desc := "(II)I" } : Jvm.MethodName) ∈ qw_tw := qw_in4 169 rfl rfl
theorem tz_963 : Jvm.Cond.selects "ShadowTheatre$Witness" ({ cls := "ShadowTheatre$Witness", name := "cellToAsk", desc := "(II)I" } : Jvm.MethodName) ({ cls := "ShadowTheatre$Witness", name := "cellToAsk", desc := "(II)I" } : Jvm.MethodName) ∈ qw_tw := qw_in4 170 rfl rfl
theorem tz_964 : Jvm.Cond.code ({ cls := "ShadowTheatre$Witness", name := "cellToAsk", desc := "(II)I" } : Jvm.MethodName) prog_12_method_9_code (8 : Nat) (Option.some Jvm.ClassFile.FieldType.int) ∈ qw_tw := qw_in4 171 rfl rfl
theorem tz_965 : Jvm.Cond.methodLink "ShadowTheatre$Witness" (107 : Nat) ({ cls := "ShadowTheatre$Witness", name := "tallyLights", desc := "(II)V" } : Jvm.MethodName) ∈ qw_tw := qw_in4 172 rfl rfl
theorem tz_967 : Jvm.Cond.instanceMethod ({ cls := "ShadowTheatre$Witness", name := "tallyLights", desc := "(II)V" } : Jvm.MethodName) ∈ qw_tw := qw_in4 174 rfl rfl
theorem tz_968 : Jvm.Cond.code ({ cls := "ShadowTheatre$Witness", name := "tallyLights", desc := "(II)V" } : Jvm.MethodName) prog_12_method_10_code (5 : Nat) (Option.none : Option Jvm.ClassFile.FieldType) ∈ qw_tw := qw_in4 175 rfl rfl
theorem tz_969 : Jvm.Cond.methodLink "ShadowTheatre$Witness" (116 : Nat) ({ cls := "ShadowTheatre$Show", name := "doCues", desc := "(II)V" } : Jvm.MethodName) ∈ qw_tw := qw_in4 176 rfl rfl
theorem tz_970 : Jvm.Cond.methodLink "ShadowTheatre$Witness" (110 : Nat) ({ cls := "java/lang/Math", name := "max", desc := "(II)I" } : Jvm.MethodName) ∈ qw_tw := qw_in4 177 rfl rfl
theorem tz_975 : Jvm.Cond.constantLong "ShadowTheatre" (234 : Nat) (-9223372036854775806 : Int64) ∈ qw_tw := qw_in4 182 rfl rfl
theorem tz_976 : Jvm.Cond.methodLink "ShadowTheatre" (236 : Nat) ({ cls := "ShadowTheatre$Chance", name := "reckon", desc := "(III)V" } : Jvm.MethodName) ∈ qw_tw := qw_in4 183 rfl rfl
theorem tz_977 : Jvm.Cond.instanceMethod ({ cls := "ShadowTheatre$Chance", name := "reckon", desc := "(III)V" } : Jvm.MethodName) ∈ qw_tw := qw_in4 184 rfl rfl
theorem tz_978 : Jvm.Cond.selects "ShadowTheatre$Chance" ({ cls := "ShadowTheatre$Chance", name := "reckon", desc := "(III)V" } : Jvm.MethodName) ({ cls := "ShadowTheatre$Chance", name := "reckon", desc := "(III)V" } : Jvm.MethodName) ∈ qw_tw := qw_in4 185 rfl rfl
theorem tz_979 : Jvm.Cond.code ({ cls := "ShadowTheatre$Chance", name := "reckon", desc := "(III)V" } : Jvm.MethodName) prog_2_method_2_code (6 : Nat) (Option.none : Option Jvm.ClassFile.FieldType) ∈ qw_tw := qw_in4 186 rfl rfl
theorem tz_980 : Jvm.Cond.methodLink "ShadowTheatre$Chance" (26 : Nat) ({ cls := "java/lang/Math", name := "min", desc := "(II)I" } : Jvm.MethodName) ∈ qw_tw := qw_in4 187 rfl rfl
theorem tz_981 : Jvm.Cond.methodLink "ShadowTheatre$Chance" (32 : Nat) ({ cls := "ShadowTheatre$Chance", name := "looseSteps", desc := "(I)I" } : Jvm.MethodName) ∈ qw_tw := qw_in4 188 rfl rfl
theorem tz_983 : Jvm.Cond.instanceMethod ({ cls := "ShadowTheatre$Chance", name := "looseSteps", desc := "(I)I" } : Jvm.MethodName) ∈ qw_tw := qw_in4 190 rfl rfl
theorem tz_984 : Jvm.Cond.code ({ cls := "ShadowTheatre$Chance", name := "looseSteps", desc := "(I)I" } : Jvm.MethodName) prog_2_method_3_code (4 : Nat) (Option.some Jvm.ClassFile.FieldType.int) ∈ qw_tw := qw_in4 191 rfl rfl
theorem tz_985 : Jvm.Cond.methodLink "ShadowTheatre$Chance" (64 : Nat) ({ cls := "ShadowTheatre$Cues", name := "figureOf", desc := "(I)I" } : Jvm.MethodName) ∈ qw_tw := qw_in4 192 rfl rfl
theorem tz_986 : Jvm.Cond.methodLink "ShadowTheatre$Chance" (67 : Nat) ({ cls := "ShadowTheatre$Troupe", name := "has", desc := "(I)Z" } : Jvm.MethodName) ∈ qw_tw := qw_in4 193 rfl rfl
theorem tz_987 : Jvm.Cond.methodLink "ShadowTheatre$Chance" (39 : Nat) ({ cls := "java/lang/Integer", name := "bitCount", desc := "(I)I" } : Jvm.MethodName) ∈ qw_tw := qw_in4 194 rfl rfl
theorem tz_988 : Jvm.Cond.methodLink "ShadowTheatre$Chance" (44 : Nat) ({ cls := "ShadowTheatre$Chance", name := "power", desc := "(II)J" } : Jvm.MethodName) ∈ qw_tw := qw_in4 195 rfl rfl
theorem tz_989 : Jvm.Cond.static ({ cls := "ShadowTheatre$Chance", name := "power", desc := "(II)J" } : Jvm.MethodName) ∈ qw_tw := qw_in4 196 rfl rfl
theorem tz_990 : Jvm.Cond.code ({ cls := "ShadowTheatre$Chance", name := "power", desc := "(II)J" } : Jvm.MethodName) prog_2_method_5_code (5 : Nat) (Option.some Jvm.ClassFile.FieldType.long) ∈ qw_tw := qw_in4 197 rfl rfl
theorem tz_991 : Jvm.Cond.methodLink "ShadowTheatre$Chance" (48 : Nat) ({ cls := "ShadowTheatre$Chance", name := "waysShown", desc := "(IIII)J" } : Jvm.MethodName) ∈ qw_tw := qw_in4 198 rfl rfl
theorem tz_993 : Jvm.Cond.instanceMethod ({ cls := "ShadowTheatre$Chance", name := "waysShown", desc := "(IIII)J" } : Jvm.MethodName) ∈ qw_tw := qw_in4 200 rfl rfl
theorem tz_994 : Jvm.Cond.code ({ cls := "ShadowTheatre$Chance", name := "waysShown", desc := "(IIII)J" } : Jvm.MethodName) prog_2_method_4_code (7 : Nat) (Option.some Jvm.ClassFile.FieldType.long) ∈ qw_tw := qw_in4 201 rfl rfl
theorem tz_995 : Jvm.Cond.methodLink "ShadowTheatre$Chance" (73 : Nat) ({ cls := "ShadowTheatre$Show", name := "open", desc := "()V" } : Jvm.MethodName) ∈ qw_tw := qw_in4 202 rfl rfl
theorem tz_996 : Jvm.Cond.methodLink "ShadowTheatre$Chance" (76 : Nat) ({ cls := "ShadowTheatre$Show", name := "doCues", desc := "(II)V" } : Jvm.MethodName) ∈ qw_tw := qw_in4 203 rfl rfl
theorem tz_997 : Jvm.Cond.methodLink "ShadowTheatre$Chance" (84 : Nat) ({ cls := "ShadowTheatre$Show", name := "isOut", desc := "(I)Z" } : Jvm.MethodName) ∈ qw_tw := qw_in4 204 rfl rfl
theorem tz_998 : Jvm.Cond.methodLink "ShadowTheatre$Chance" (87 : Nat) ({ cls := "ShadowTheatre$Stage", name := "shine", desc := "(ZI)V" } : Jvm.MethodName) ∈ qw_tw := qw_in4 205 rfl rfl
theorem tz_999 : Jvm.Cond.methodLink "ShadowTheatre$Chance" (93 : Nat) ({ cls := "ShadowTheatre$Show", name := "isShownNow", desc := "()Z" } : Jvm.MethodName) ∈ qw_tw := qw_in4 206 rfl rfl
theorem tz_1000 : Jvm.Cond.methodLink "ShadowTheatre$Chance" (52 : Nat) ({ cls := "ShadowTheatre$Chance", name := "lowerTerms", desc := "()V" } : Jvm.MethodName) ∈ qw_tw := qw_in4 207 rfl rfl
theorem tz_1002 : Jvm.Cond.instanceMethod ({ cls := "ShadowTheatre$Chance", name := "lowerTerms", desc := "()V" } : Jvm.MethodName) ∈ qw_tw := qw_in4 209 rfl rfl
theorem tz_1003 : Jvm.Cond.code ({ cls := "ShadowTheatre$Chance", name := "lowerTerms", desc := "()V" } : Jvm.MethodName) prog_2_method_6_code (2 : Nat) (Option.none : Option Jvm.ClassFile.FieldType) ∈ qw_tw := qw_in4 210 rfl rfl
theorem tz_1004 : Jvm.Cond.constantLong "ShadowTheatre$Chance" (97 : Nat) (2 : Int64) ∈ qw_tw := qw_in4 211 rfl rfl
theorem tz_1009 : Jvm.Cond.methodLink "ShadowTheatre" (247 : Nat) ({ cls := "ShadowTheatre$Chance", name := "playOut", desc := "(III)I" } : Jvm.MethodName) ∈ qw_tw := qw_in4 216 rfl rfl
theorem tz_1010 : Jvm.Cond.instanceMethod ({ cls := "ShadowTheatre$Chance", name := "playOut", desc := "(III)I" } : Jvm.MethodName) ∈ qw_tw := qw_in4 217 rfl rfl
theorem tz_1011 : Jvm.Cond.selects "ShadowTheatre$Chance" ({ cls := "ShadowTheatre$Chance", name := "playOut", desc := "(III)I" } : Jvm.MethodName) ({ cls := "ShadowTheatre$Chance", name := "playOut", desc := "(III)I" } : Jvm.MethodName) ∈ qw_tw := qw_in4 218 rfl rfl
theorem tz_1012 : Jvm.Cond.code ({ cls := "ShadowTheatre$Chance", name := "playOut", desc := "(III)I" } : Jvm.MethodName) prog_2_method_7_code (5 : Nat) (Option.some Jvm.ClassFile.FieldType.int) ∈ qw_tw := qw_in4 219 rfl rfl
theorem tz_1013 : Jvm.Cond.methodLink "ShadowTheatre$Chance" (99 : Nat) ({ cls := "ShadowTheatre$Chance", name := "draw", desc := "(II)V" } : Jvm.MethodName) ∈ qw_tw := qw_in4 220 rfl rfl
theorem tz_1015 : Jvm.Cond.instanceMethod ({ cls := "ShadowTheatre$Chance", name := "draw", desc := "(II)V" } : Jvm.MethodName) ∈ qw_tw := qw_in4 222 rfl rfl
theorem tz_1016 : Jvm.Cond.code ({ cls := "ShadowTheatre$Chance", name := "draw", desc := "(II)V" } : Jvm.MethodName) prog_2_method_8_code (7 : Nat) (Option.none : Option Jvm.ClassFile.FieldType) ∈ qw_tw := qw_in4 223 rfl rfl
theorem tz_1017 : Jvm.Cond.methodLink "ShadowTheatre$Chance" (116 : Nat) ({ cls := "ShadowTheatre$Cues", name := "clear", desc := "()V" } : Jvm.MethodName) ∈ qw_tw := qw_in4 224 rfl rfl
theorem tz_1018 : Jvm.Cond.instanceMethod ({ cls := "ShadowTheatre$Cues", name := "clear", desc := "()V" } : Jvm.MethodName) ∈ qw_tw := qw_in4 225 rfl rfl
theorem tz_1019 : Jvm.Cond.selects "ShadowTheatre$Cues" ({ cls := "ShadowTheatre$Cues", name := "clear", desc := "()V" } : Jvm.MethodName) ({ cls := "ShadowTheatre$Cues", name := "clear", desc := "()V" } : Jvm.MethodName) ∈ qw_tw := qw_in4 226 rfl rfl
theorem tz_1020 : Jvm.Cond.code ({ cls := "ShadowTheatre$Cues", name := "clear", desc := "()V" } : Jvm.MethodName) prog_3_method_4_code (1 : Nat) (Option.none : Option Jvm.ClassFile.FieldType) ∈ qw_tw := qw_in4 227 rfl rfl
theorem tz_1021 : Jvm.Cond.methodLink "ShadowTheatre$Chance" (123 : Nat) ({ cls := "ShadowTheatre$Chance", name := "next", desc := "(I)I" } : Jvm.MethodName) ∈ qw_tw := qw_in4 228 rfl rfl
theorem tz_1022 : Jvm.Cond.static ({ cls := "ShadowTheatre$Chance", name := "next", desc := "(I)I" } : Jvm.MethodName) ∈ qw_tw := qw_in4 229 rfl rfl
theorem tz_1023 : Jvm.Cond.code ({ cls := "ShadowTheatre$Chance", name := "next", desc := "(I)I" } : Jvm.MethodName) prog_2_method_9_code (1 : Nat) (Option.some Jvm.ClassFile.FieldType.int) ∈ qw_tw := qw_in4 230 rfl rfl
theorem tz_1024 : Jvm.Cond.constant "ShadowTheatre$Chance" (129 : Nat) (1103515245 : Int32) ∈ qw_tw := qw_in4 231 rfl rfl
theorem tz_1025 : Jvm.Cond.methodLink "ShadowTheatre$Chance" (126 : Nat) ({ cls := "ShadowTheatre$Cues", name := "add", desc := "(II)V" } : Jvm.MethodName) ∈ qw_tw := qw_in4 232 rfl rfl
theorem tz_1026 : Jvm.Cond.instanceMethod ({ cls := "ShadowTheatre$Cues", name := "add", desc := "(II)V" } : Jvm.MethodName) ∈ qw_tw := qw_in4 233 rfl rfl
theorem tz_1027 : Jvm.Cond.selects "ShadowTheatre$Cues" ({ cls := "ShadowTheatre$Cues", name := "add", desc := "(II)V" } : Jvm.MethodName) ({ cls := "ShadowTheatre$Cues", name := "add", desc := "(II)V" } : Jvm.MethodName) ∈ qw_tw := qw_in4 234 rfl rfl
theorem tz_1028 : Jvm.Cond.code ({ cls := "ShadowTheatre$Cues", name := "add", desc := "(II)V" } : Jvm.MethodName) prog_3_method_5_code (3 : Nat) (Option.none : Option Jvm.ClassFile.FieldType) ∈ qw_tw := qw_in4 235 rfl rfl
theorem tz_1029 : Jvm.Cond.methodLink "ShadowTheatre$Chance" (102 : Nat) ({ cls := "ShadowTheatre$Show", name := "shownSteps", desc := "(LShadowTheatre$Cues;)I" } : Jvm.MethodName) ∈ qw_tw := qw_in4 236 rfl rfl
theorem tz_1030 : Jvm.Cond.methodLink "ShadowTheatre$Chance" (110 : Nat) ({ cls := "ShadowTheatre$Glow", name := "dark", desc := "()I" } : Jvm.MethodName) ∈ qw_tw := qw_in4 237 rfl rfl
theorem tz_1035 : Jvm.Cond.methodLink "ShadowTheatre" (250 : Nat) ({ cls := "ShadowTheatre$Sheet", name := "renew", desc := "(II)V" } : Jvm.MethodName) ∈ qw_tw := qw_in5 2 rfl rfl
theorem tz_1036 : Jvm.Cond.instanceMethod ({ cls := "ShadowTheatre$Sheet", name := "renew", desc := "(II)V" } : Jvm.MethodName) ∈ qw_tw := qw_in5 3 rfl rfl
theorem tz_1037 : Jvm.Cond.selects "ShadowTheatre$Sheet" ({ cls := "ShadowTheatre$Sheet", name := "renew", desc := "(II)V" } : Jvm.MethodName) ({ cls := "ShadowTheatre$Sheet", name := "renew", desc := "(II)V" } : Jvm.MethodName) ∈ qw_tw := qw_in5 4 rfl rfl
theorem tz_1038 : Jvm.Cond.code ({ cls := "ShadowTheatre$Sheet", name := "renew", desc := "(II)V" } : Jvm.MethodName) prog_8_method_4_code (4 : Nat) (Option.none : Option Jvm.ClassFile.FieldType) ∈ qw_tw := qw_in5 5 rfl rfl
theorem tz_1039 : Jvm.Cond.methodLink "ShadowTheatre$Sheet" (22 : Nat) ({ cls := "java/lang/Math", name := "min", desc := "(II)I" } : Jvm.MethodName) ∈ qw_tw := qw_in5 6 rfl rfl
theorem tz_1044 : Jvm.Cond.methodLink "ShadowTheatre" (253 : Nat) ({ cls := "ShadowTheatre$Sheet", name := "drop", desc := "()I" } : Jvm.MethodName) ∈ qw_tw := qw_in5 11 rfl rfl
theorem tz_1045 : Jvm.Cond.instanceMethod ({ cls := "ShadowTheatre$Sheet", name := "drop", desc := "()I" } : Jvm.MethodName) ∈ qw_tw := qw_in5 12 rfl rfl
theorem tz_1046 : Jvm.Cond.selects "ShadowTheatre$Sheet" ({ cls := "ShadowTheatre$Sheet", name := "drop", desc := "()I" } : Jvm.MethodName) ({ cls := "ShadowTheatre$Sheet", name := "drop", desc := "()I" } : Jvm.MethodName) ∈ qw_tw := qw_in5 13 rfl rfl
theorem tz_1047 : Jvm.Cond.code ({ cls := "ShadowTheatre$Sheet", name := "drop", desc := "()I" } : Jvm.MethodName) prog_8_method_5_code (2 : Nat) (Option.some Jvm.ClassFile.FieldType.int) ∈ qw_tw := qw_in5 14 rfl rfl
theorem tz_1052 : Jvm.Cond.methodLink "ShadowTheatre" (254 : Nat) ({ cls := "ShadowTheatre", name := "findingOf", desc := "(LShadowTheatre$Sheet;II)I" } : Jvm.MethodName) ∈ qw_tw := qw_in5 19 rfl rfl
theorem tz_1053 : Jvm.Cond.static ({ cls := "ShadowTheatre", name := "findingOf", desc := "(LShadowTheatre$Sheet;II)I" } : Jvm.MethodName) ∈ qw_tw := qw_in5 20 rfl rfl
theorem tz_1054 : Jvm.Cond.code ({ cls := "ShadowTheatre", name := "findingOf", desc := "(LShadowTheatre$Sheet;II)I" } : Jvm.MethodName) prog_1_method_51_code (3 : Nat) (Option.some Jvm.ClassFile.FieldType.int) ∈ qw_tw := qw_in5 21 rfl rfl
theorem tz_1055 : Jvm.Cond.methodLink "ShadowTheatre" (357 : Nat) ({ cls := "ShadowTheatre$Sheet", name := "has", desc := "(I)Z" } : Jvm.MethodName) ∈ qw_tw := qw_in5 22 rfl rfl
theorem tz_1056 : Jvm.Cond.methodLink "ShadowTheatre" (258 : Nat) ({ cls := "ShadowTheatre$Sheet", name := "put", desc := "(II)V" } : Jvm.MethodName) ∈ qw_tw := qw_in5 23 rfl rfl
theorem tz_1057 : Jvm.Cond.instanceMethod ({ cls := "ShadowTheatre$Sheet", name := "put", desc := "(II)V" } : Jvm.MethodName) ∈ qw_tw := qw_in5 24 rfl rfl
theorem tz_1058 : Jvm.Cond.selects "ShadowTheatre$Sheet" ({ cls := "ShadowTheatre$Sheet", name := "put", desc := "(II)V" } : Jvm.MethodName) ({ cls := "ShadowTheatre$Sheet", name := "put", desc := "(II)V" } : Jvm.MethodName) ∈ qw_tw := qw_in5 25 rfl rfl
theorem tz_1059 : Jvm.Cond.code ({ cls := "ShadowTheatre$Sheet", name := "put", desc := "(II)V" } : Jvm.MethodName) prog_8_method_6_code (3 : Nat) (Option.none : Option Jvm.ClassFile.FieldType) ∈ qw_tw := qw_in5 26 rfl rfl
theorem tz_1064 : Jvm.Cond.constant "ShadowTheatre" (261 : Nat) (-2147483648 : Int32) ∈ qw_tw := qw_in5 31 rfl rfl
theorem tz_1069 : Jvm.Cond.methodLink "ShadowTheatre" (265 : Nat) ({ cls := "ShadowTheatre$Sheet", name := "hasRun", desc := "(II)Z" } : Jvm.MethodName) ∈ qw_tw := qw_in5 36 rfl rfl
theorem tz_1070 : Jvm.Cond.instanceMethod ({ cls := "ShadowTheatre$Sheet", name := "hasRun", desc := "(II)Z" } : Jvm.MethodName) ∈ qw_tw := qw_in5 37 rfl rfl
theorem tz_1071 : Jvm.Cond.selects "ShadowTheatre$Sheet" ({ cls := "ShadowTheatre$Sheet", name := "hasRun", desc := "(II)Z" } : Jvm.MethodName) ({ cls := "ShadowTheatre$Sheet", name := "hasRun", desc := "(II)Z" } : Jvm.MethodName) ∈ qw_tw := qw_in5 38 rfl rfl
theorem tz_1072 : Jvm.Cond.code ({ cls := "ShadowTheatre$Sheet", name := "hasRun", desc := "(II)Z" } : Jvm.MethodName) prog_8_method_8_code (3 : Nat) (Option.some Jvm.ClassFile.FieldType.boolean) ∈ qw_tw := qw_in5 39 rfl rfl
theorem tz_1073 : Jvm.Cond.methodLink "ShadowTheatre" (272 : Nat) ({ cls := "java/lang/System", name := "arraycopy", desc := "(Ljava/lang/Object;ILjava/lang/Object;II)V" } : Jvm.MethodName) ∈ qw_tw := qw_in5 40 rfl rfl
theorem tz_1074 : Jvm.Cond.static ({ cls := "java/lang/System", name := "arraycopy", desc := "(Ljava/lang/Object;ILjava/lang/Object;II)V" } : Jvm.MethodName) ∈ qw_tw := qw_in5 41 rfl rfl
theorem tz_1075 : Jvm.Cond.native ({ cls := "java/lang/System", name := "arraycopy", desc := "(Ljava/lang/Object;ILjava/lang/Object;II)V" } : Jvm.MethodName) ∈ qw_tw := qw_in5 42 rfl rfl
theorem tz_1080 : Jvm.Cond.methodLink "ShadowTheatre" (278 : Nat) ({ cls := "java/lang/Math", name := "min", desc := "(II)I" } : Jvm.MethodName) ∈ qw_tw := qw_in5 47 rfl rfl
theorem tz_1082 : Jvm.Cond.instanceMethod ({ cls := "ShadowTheatre", name := "count", desc := "(I)I" } : Jvm.MethodName) ∈ qw_tw := qw_in5 49 rfl rfl
theorem tz_1083 : Jvm.Cond.selects "ShadowTheatre" ({ cls := "ShadowTheatre", name := "count", desc := "(I)I" } : Jvm.MethodName) ({ cls := "ShadowTheatre", name := "count", desc := "(I)I" } : Jvm.MethodName) ∈ qw_tw := qw_in5 50 rfl rfl
theorem tz_1084 : Jvm.Cond.code ({ cls := "ShadowTheatre", name := "count", desc := "(I)I" } : Jvm.MethodName) prog_1_method_37_code (2 : Nat) (Option.some Jvm.ClassFile.FieldType.int) ∈ qw_tw := qw_in5 51 rfl rfl
theorem tz_1085 : Jvm.Cond.methodLink "ShadowTheatre" (284 : Nat) ({ cls := "ShadowTheatre$Cues", name := "steps", desc := "()I" } : Jvm.MethodName) ∈ qw_tw := qw_in5 52 rfl rfl
theorem tz_1090 : Jvm.Cond.constantLong "ShadowTheatre" (293 : Nat) (17 : Int64) ∈ qw_tw := qw_in5 57 rfl rfl
theorem tz_1091 : Jvm.Cond.methodLink "ShadowTheatre" (295 : Nat) ({ cls := "ShadowTheatre", name := "count", desc := "(I)I" } : Jvm.MethodName) ∈ qw_tw := qw_in5 58 rfl rfl
theorem tz_1092 : Jvm.Cond.methodLink "ShadowTheatre" (297 : Nat) ({ cls := "ShadowTheatre", name := "mix", desc := "(JJ)J" } : Jvm.MethodName) ∈ qw_tw := qw_in5 59 rfl rfl
theorem tz_1093 : Jvm.Cond.static ({ cls := "ShadowTheatre", name := "mix", desc := "(JJ)J" } : Jvm.MethodName) ∈ qw_tw := qw_in5 60 rfl rfl
theorem tz_1094 : Jvm.Cond.code ({ cls := "ShadowTheatre", name := "mix", desc := "(JJ)J" } : Jvm.MethodName) prog_1_method_39_code (4 : Nat) (Option.some Jvm.ClassFile.FieldType.long) ∈ qw_tw := qw_in5 61 rfl rfl
theorem tz_1095 : Jvm.Cond.constantLong "ShadowTheatre" (324 : Nat) (31 : Int64) ∈ qw_tw := qw_in5 62 rfl rfl
theorem tz_1096 : Jvm.Cond.methodLink "ShadowTheatre" (301 : Nat) ({ cls := "ShadowTheatre", name := "fault", desc := "(I)I" } : Jvm.MethodName) ∈ qw_tw := qw_in5 63 rfl rfl
theorem tz_1097 : Jvm.Cond.methodLink "ShadowTheatre" (304 : Nat) ({ cls := "ShadowTheatre", name := "mixStep", desc := "(JI)J" } : Jvm.MethodName) ∈ qw_tw := qw_in5 64 rfl rfl
theorem tz_1099 : Jvm.Cond.instanceMethod ({ cls := "ShadowTheatre", name := "mixStep", desc := "(JI)J" } : Jvm.MethodName) ∈ qw_tw := qw_in5 66 rfl rfl
theorem tz_1100 : Jvm.Cond.code ({ cls := "ShadowTheatre", name := "mixStep", desc := "(JI)J" } : Jvm.MethodName) prog_1_method_40_code (6 : Nat) (Option.some Jvm.ClassFile.FieldType.long) ∈ qw_tw := qw_in5 67 rfl rfl
theorem tz_1101 : Jvm.Cond.methodLink "ShadowTheatre" (326 : Nat) ({ cls := "ShadowTheatre", name := "screen", desc := "(II)I" } : Jvm.MethodName) ∈ qw_tw := qw_in5 68 rfl rfl
theorem tz_1102 : Jvm.Cond.methodLink "ShadowTheatre" (308 : Nat) ({ cls := "ShadowTheatre", name := "mixCell", desc := "(JI)J" } : Jvm.MethodName) ∈ qw_tw := qw_in5 69 rfl rfl
theorem tz_1104 : Jvm.Cond.instanceMethod ({ cls := "ShadowTheatre", name := "mixCell", desc := "(JI)J" } : Jvm.MethodName) ∈ qw_tw := qw_in5 71 rfl rfl
theorem tz_1105 : Jvm.Cond.code ({ cls := "ShadowTheatre", name := "mixCell", desc := "(JI)J" } : Jvm.MethodName) prog_1_method_41_code (6 : Nat) (Option.some Jvm.ClassFile.FieldType.long) ∈ qw_tw := qw_in5 72 rfl rfl
theorem tz_1106 : Jvm.Cond.methodLink "ShadowTheatre" (329 : Nat) ({ cls := "ShadowTheatre", name := "picture", desc := "(I)I" } : Jvm.MethodName) ∈ qw_tw := qw_in5 73 rfl rfl
theorem tz_1107 : Jvm.Cond.methodLink "ShadowTheatre" (331 : Nat) ({ cls := "ShadowTheatre", name := "light", desc := "(II)I" } : Jvm.MethodName) ∈ qw_tw := qw_in5 74 rfl rfl
theorem tz_1108 : Jvm.Cond.methodLink "ShadowTheatre" (334 : Nat) ({ cls := "ShadowTheatre", name := "covers", desc := "(II)I" } : Jvm.MethodName) ∈ qw_tw := qw_in5 75 rfl rfl
theorem tz_1109 : Jvm.Cond.methodLink "ShadowTheatre" (311 : Nat) ({ cls := "ShadowTheatre", name := "mixFigure", desc := "(JI)J" } : Jvm.MethodName) ∈ qw_tw := qw_in5 76 rfl rfl
theorem tz_1111 : Jvm.Cond.instanceMethod ({ cls := "ShadowTheatre", name := "mixFigure", desc := "(JI)J" } : Jvm.MethodName) ∈ qw_tw := qw_in5 78 rfl rfl
theorem tz_1112 : Jvm.Cond.code ({ cls := "ShadowTheatre", name := "mixFigure", desc := "(JI)J" } : Jvm.MethodName) prog_1_method_42_code (7 : Nat) (Option.some Jvm.ClassFile.FieldType.long) ∈ qw_tw := qw_in5 79 rfl rfl
theorem tz_1113 : Jvm.Cond.methodLink "ShadowTheatre" (337 : Nat) ({ cls := "ShadowTheatre", name := "figure", desc := "(II)I" } : Jvm.MethodName) ∈ qw_tw := qw_in5 80 rfl rfl
theorem tz_1114 : Jvm.Cond.methodLink "ShadowTheatre" (314 : Nat) ({ cls := "ShadowTheatre", name := "mixShown", desc := "(J)J" } : Jvm.MethodName) ∈ qw_tw := qw_in5 81 rfl rfl
theorem tz_1116 : Jvm.Cond.instanceMethod ({ cls := "ShadowTheatre", name := "mixShown", desc := "(J)J" } : Jvm.MethodName) ∈ qw_tw := qw_in5 83 rfl rfl
theorem tz_1117 : Jvm.Cond.code ({ cls := "ShadowTheatre", name := "mixShown", desc := "(J)J" } : Jvm.MethodName) prog_1_method_43_code (6 : Nat) (Option.some Jvm.ClassFile.FieldType.long) ∈ qw_tw := qw_in5 84 rfl rfl
theorem tz_1118 : Jvm.Cond.methodLink "ShadowTheatre" (340 : Nat) ({ cls := "ShadowTheatre", name := "shown", desc := "(I)I" } : Jvm.MethodName) ∈ qw_tw := qw_in5 85 rfl rfl
theorem tz_1119 : Jvm.Cond.methodLink "ShadowTheatre" (343 : Nat) ({ cls := "ShadowTheatre", name := "touched", desc := "(I)I" } : Jvm.MethodName) ∈ qw_tw := qw_in5 86 rfl rfl
theorem tz_1120 : Jvm.Cond.methodLink "ShadowTheatre" (346 : Nat) ({ cls := "ShadowTheatre", name := "darkest", desc := "()I" } : Jvm.MethodName) ∈ qw_tw := qw_in5 87 rfl rfl
theorem tz_1121 : Jvm.Cond.methodLink "ShadowTheatre" (318 : Nat) ({ cls := "ShadowTheatre", name := "mixStepPlans", desc := "(JI)J" } : Jvm.MethodName) ∈ qw_tw := qw_in5 88 rfl rfl
theorem tz_1123 : Jvm.Cond.instanceMethod ({ cls := "ShadowTheatre", name := "mixStepPlans", desc := "(JI)J" } : Jvm.MethodName) ∈ qw_tw := qw_in5 90 rfl rfl
theorem tz_1124 : Jvm.Cond.code ({ cls := "ShadowTheatre", name := "mixStepPlans", desc := "(JI)J" } : Jvm.MethodName) prog_1_method_44_code (6 : Nat) (Option.some Jvm.ClassFile.FieldType.long) ∈ qw_tw := qw_in5 91 rfl rfl
theorem tz_1125 : Jvm.Cond.methodLink "ShadowTheatre" (321 : Nat) ({ cls := "ShadowTheatre", name := "mixRest", desc := "(J)J" } : Jvm.MethodName) ∈ qw_tw := qw_in5 92 rfl rfl
theorem tz_1127 : Jvm.Cond.instanceMethod ({ cls := "ShadowTheatre", name := "mixRest", desc := "(J)J" } : Jvm.MethodName) ∈ qw_tw := qw_in5 94 rfl rfl
theorem tz_1128 : Jvm.Cond.code ({ cls := "ShadowTheatre", name := "mixRest", desc := "(J)J" } : Jvm.MethodName) prog_1_method_45_code (5 : Nat) (Option.some Jvm.ClassFile.FieldType.long) ∈ qw_tw := qw_in5 95 rfl rfl
theorem tz_1129 : Jvm.Cond.methodLink "ShadowTheatre" (349 : Nat) ({ cls := "ShadowTheatre", name := "never", desc := "()I" } : Jvm.MethodName) ∈ qw_tw := qw_in5 96 rfl rfl
theorem tz_1136 : Jvm.Cond.fieldLink "ShadowTheatreModel" (7 : Nat) "ShadowTheatreModel" "forms" "[I" ∈ qw_tw := qw_in5 103 rfl rfl
theorem tz_1137 : Jvm.Cond.fieldLink "ShadowTheatreModel" (13 : Nat) "ShadowTheatreModel" "sizes" "[I" ∈ qw_tw := qw_in5 104 rfl rfl
theorem tz_1138 : Jvm.Cond.fieldLink "ShadowTheatreModel" (16 : Nat) "ShadowTheatreModel" "items" "[I" ∈ qw_tw := qw_in5 105 rfl rfl
theorem tz_1139 : Jvm.Cond.fieldLink "ShadowTheatreModel" (19 : Nat) "ShadowTheatreModel" "moved" "[I" ∈ qw_tw := qw_in5 106 rfl rfl
theorem tz_1140 : Jvm.Cond.fieldLink "ShadowTheatreModel" (74 : Nat) "ShadowTheatreModel" "latest" "I" ∈ qw_tw := qw_in5 107 rfl rfl
theorem tz_1141 : Jvm.Cond.fieldLink "ShadowTheatreModel" (22 : Nat) "ShadowTheatreModel" "bytes" "[I" ∈ qw_tw := qw_in5 108 rfl rfl
theorem tz_1142 : Jvm.Cond.fieldLink "ShadowTheatreModel" (25 : Nat) "ShadowTheatreModel" "typed" "[I" ∈ qw_tw := qw_in5 109 rfl rfl
theorem tz_1143 : Jvm.Cond.fieldLink "ShadowTheatreModel" (109 : Nat) "ShadowTheatreModel" "figures" "I" ∈ qw_tw := qw_in5 110 rfl rfl
theorem tz_1144 : Jvm.Cond.fieldLink "ShadowTheatreModel" (28 : Nat) "ShadowTheatreModel" "figure" "[I" ∈ qw_tw := qw_in5 111 rfl rfl
theorem tz_1145 : Jvm.Cond.fieldLink "ShadowTheatreModel" (31 : Nat) "ShadowTheatreModel" "cards" "[I" ∈ qw_tw := qw_in5 112 rfl rfl
theorem tz_1146 : Jvm.Cond.fieldLink "ShadowTheatreModel" (34 : Nat) "ShadowTheatreModel" "who" "[I" ∈ qw_tw := qw_in5 113 rfl rfl
theorem tz_1147 : Jvm.Cond.fieldLink "ShadowTheatreModel" (37 : Nat) "ShadowTheatreModel" "whither" "[I" ∈ qw_tw := qw_in5 114 rfl rfl
theorem tz_1148 : Jvm.Cond.fieldLink "ShadowTheatreModel" (40 : Nat) "ShadowTheatreModel" "picture" "[I" ∈ qw_tw := qw_in5 115 rfl rfl
theorem tz_1149 : Jvm.Cond.fieldLink "ShadowTheatreModel" (64 : Nat) "ShadowTheatreModel" "lamp" "I" ∈ qw_tw := qw_in5 116 rfl rfl
theorem tz_1150 : Jvm.Cond.fieldLink "ShadowTheatreModel" (169 : Nat) "ShadowTheatreModel" "flickers" "I" ∈ qw_tw := qw_in5 117 rfl rfl
theorem tz_1151 : Jvm.Cond.fieldLink "ShadowTheatreModel" (43 : Nat) "ShadowTheatreModel" "flicker" "[I" ∈ qw_tw := qw_in5 118 rfl rfl
theorem tz_1152 : Jvm.Cond.fieldLink "ShadowTheatreModel" (46 : Nat) "ShadowTheatreModel" "depthBy" "[I" ∈ qw_tw := qw_in5 119 rfl rfl
theorem tz_1153 : Jvm.Cond.fieldLink "ShadowTheatreModel" (49 : Nat) "ShadowTheatreModel" "placeBy" "[I" ∈ qw_tw := qw_in5 120 rfl rfl
theorem tz_1154 : Jvm.Cond.fieldLink "ShadowTheatreModel" (52 : Nat) "ShadowTheatreModel" "depth" "[I" ∈ qw_tw := qw_in5 121 rfl rfl
theorem tz_1155 : Jvm.Cond.fieldLink "ShadowTheatreModel" (55 : Nat) "ShadowTheatreModel" "place" "[I" ∈ qw_tw := qw_in5 122 rfl rfl
theorem tz_1156 : Jvm.Cond.fieldLink "ShadowTheatreModel" (180 : Nat) "ShadowTheatreModel" "undone" "I" ∈ qw_tw := qw_in5 123 rfl rfl
theorem tz_1157 : Jvm.Cond.fieldLink "ShadowTheatreModel" (198 : Nat) "ShadowTheatreModel" "gone" "I" ∈ qw_tw := qw_in5 124 rfl rfl
theorem tz_1158 : Jvm.Cond.fieldLink "ShadowTheatreModel" (266 : Nat) "ShadowTheatreModel" "sights" "I" ∈ qw_tw := qw_in5 125 rfl rfl
theorem tz_1159 : Jvm.Cond.fieldLink "ShadowTheatreModel" (58 : Nat) "ShadowTheatreModel" "sight" "[I" ∈ qw_tw := qw_in5 126 rfl rfl
theorem tz_1160 : Jvm.Cond.fieldLink "ShadowTheatreModel" (61 : Nat) "ShadowTheatreModel" "alike" "[I" ∈ qw_tw := qw_in5 127 rfl rfl
theorem tz_1161 : Jvm.Cond.fieldLink "ShadowTheatreModel" (303 : Nat) "ShadowTheatreModel" "drawn" "I" ∈ qw_tw := qw_in5 128 rfl rfl
theorem tz_1219 : Jvm.Cond.methodLink "ShadowTheatreModel" (79 : Nat) ({ cls := "ShadowTheatreModel", name := "isSheet", desc := "(I)Z" } : Jvm.MethodName) ∈ qw_tw := qw_in5 186 rfl rfl
theorem tz_1220 : Jvm.Cond.static ({ cls := "ShadowTheatreModel", name := "isSheet", desc := "(I)Z" } : Jvm.MethodName) ∈ qw_tw := qw_in5 187 rfl rfl
theorem tz_1221 : Jvm.Cond.code ({ cls := "ShadowTheatreModel", name := "isSheet", desc := "(I)Z" } : Jvm.MethodName) prog_14_method_11_code (1 : Nat) (Option.some Jvm.ClassFile.FieldType.boolean) ∈ qw_tw := qw_in5 188 rfl rfl
theorem tz_1222 : Jvm.Cond.constantLong "ShadowTheatreModel" (77 : Nat) (3 : Int64) ∈ qw_tw := qw_in5 189 rfl rfl
theorem tz_1223 : Jvm.Cond.methodLink "ShadowTheatreModel" (70 : Nat) ({ cls := "ShadowTheatreModel", name := "in", desc := "(JJJ)Z" } : Jvm.MethodName) ∈ qw_tw := qw_in5 190 rfl rfl
theorem tz_1224 : Jvm.Cond.static ({ cls := "ShadowTheatreModel", name := "in", desc := "(JJJ)Z" } : Jvm.MethodName) ∈ qw_tw := qw_in5 191 rfl rfl
theorem tz_1225 : Jvm.Cond.code ({ cls := "ShadowTheatreModel", name := "in", desc := "(JJJ)Z" } : Jvm.MethodName) prog_14_method_3_code (6 : Nat) (Option.some Jvm.ClassFile.FieldType.boolean) ∈ qw_tw := qw_in5 192 rfl rfl
theorem tz_1226 : Jvm.Cond.constantLong "ShadowTheatreModel" (83 : Nat) (2 : Int64) ∈ qw_tw := qw_in5 193 rfl rfl
theorem tz_1227 : Jvm.Cond.methodLink "ShadowTheatreModel" (85 : Nat) ({ cls := "ShadowTheatreModel", name := "finds", desc := "(I)I" } : Jvm.MethodName) ∈ qw_tw := qw_in5 194 rfl rfl
theorem tz_1229 : Jvm.Cond.instanceMethod ({ cls := "ShadowTheatreModel", name := "finds", desc := "(I)I" } : Jvm.MethodName) ∈ qw_tw := qw_in5 196 rfl rfl
theorem tz_1230 : Jvm.Cond.code ({ cls := "ShadowTheatreModel", name := "finds", desc := "(I)I" } : Jvm.MethodName) prog_14_method_10_code (2 : Nat) (Option.some Jvm.ClassFile.FieldType.int) ∈ qw_tw := qw_in5 197 rfl rfl
theorem tz_1239 : Jvm.Cond.methodLink "ShadowTheatreModel" (89 : Nat) ({ cls := "ShadowTheatreModel", name := "lacks", desc := "(III)I" } : Jvm.MethodName) ∈ qw_tw := qw_in5 206 rfl rfl
theorem tz_1241 : Jvm.Cond.instanceMethod ({ cls := "ShadowTheatreModel", name := "lacks", desc := "(III)I" } : Jvm.MethodName) ∈ qw_tw := qw_in5 208 rfl rfl
theorem tz_1242 : Jvm.Cond.code ({ cls := "ShadowTheatreModel", name := "lacks", desc := "(III)I" } : Jvm.MethodName) prog_14_method_14_code (4 : Nat) (Option.some Jvm.ClassFile.FieldType.int) ∈ qw_tw := qw_in5 209 rfl rfl
theorem tz_1243 : Jvm.Cond.methodLink "ShadowTheatreModel" (93 : Nat) ({ cls := "ShadowTheatreModel", name := "cut", desc := "(II)I" } : Jvm.MethodName) ∈ qw_tw := qw_in5 210 rfl rfl
theorem tz_1244 : Jvm.Cond.static ({ cls := "ShadowTheatreModel", name := "cut", desc := "(II)I" } : Jvm.MethodName) ∈ qw_tw := qw_in5 211 rfl rfl
theorem tz_1245 : Jvm.Cond.code ({ cls := "ShadowTheatreModel", name := "cut", desc := "(II)I" } : Jvm.MethodName) prog_14_method_15_code (2 : Nat) (Option.some Jvm.ClassFile.FieldType.int) ∈ qw_tw := qw_in5 212 rfl rfl
theorem tz_1250 : Jvm.Cond.constant "ShadowTheatreModel" (97 : Nat) (-2147483648 : Int32) ∈ qw_tw := qw_in5 217 rfl rfl
theorem tz_1259 : Jvm.Cond.methodLink "ShadowTheatreModel" (98 : Nat) ({ cls := "ShadowTheatreModel", name := "isText", desc := "(I)Z" } : Jvm.MethodName) ∈ qw_tw := qw_in5 226 rfl rfl
theorem tz_1260 : Jvm.Cond.static ({ cls := "ShadowTheatreModel", name := "isText", desc := "(I)Z" } : Jvm.MethodName) ∈ qw_tw := qw_in5 227 rfl rfl
theorem tz_1261 : Jvm.Cond.code ({ cls := "ShadowTheatreModel", name := "isText", desc := "(I)Z" } : Jvm.MethodName) prog_14_method_19_code (1 : Nat) (Option.some Jvm.ClassFile.FieldType.boolean) ∈ qw_tw := qw_in5 228 rfl rfl
theorem tz_1262 : Jvm.Cond.constantLong "ShadowTheatreModel" (101 : Nat) (255 : Int64) ∈ qw_tw := qw_in5 229 rfl rfl
theorem tz_1275 : Jvm.Cond.methodLink "ShadowTheatreModel" (142 : Nat) ({ cls := "ShadowTheatreModel", name := "readsText", desc := "(I)I" } : Jvm.MethodName) ∈ qw_tw := qw_in6 2 rfl rfl
theorem tz_1277 : Jvm.Cond.instanceMethod ({ cls := "ShadowTheatreModel", name := "readsText", desc := "(I)I" } : Jvm.MethodName) ∈ qw_tw := qw_in6 4 rfl rfl
theorem tz_1278 : Jvm.Cond.code ({ cls := "ShadowTheatreModel", name := "readsText", desc := "(I)I" } : Jvm.MethodName) prog_14_method_32_code (2 : Nat) (Option.some Jvm.ClassFile.FieldType.int) ∈ qw_tw := qw_in6 5 rfl rfl
theorem tz_1279 : Jvm.Cond.methodLink "ShadowTheatreModel" (132 : Nat) ({ cls := "ShadowTheatreModel", name := "readsFigures", desc := "()I" } : Jvm.MethodName) ∈ qw_tw := qw_in6 6 rfl rfl
theorem tz_1281 : Jvm.Cond.instanceMethod ({ cls := "ShadowTheatreModel", name := "readsFigures", desc := "()I" } : Jvm.MethodName) ∈ qw_tw := qw_in6 8 rfl rfl
theorem tz_1282 : Jvm.Cond.code ({ cls := "ShadowTheatreModel", name := "readsFigures", desc := "()I" } : Jvm.MethodName) prog_14_method_26_code (8 : Nat) (Option.some Jvm.ClassFile.FieldType.int) ∈ qw_tw := qw_in6 9 rfl rfl
theorem tz_1283 : Jvm.Cond.methodLink "ShadowTheatreModel" (112 : Nat) ({ cls := "ShadowTheatreModel", name := "partOf", desc := "(III)I" } : Jvm.MethodName) ∈ qw_tw := qw_in6 10 rfl rfl
theorem tz_1284 : Jvm.Cond.static ({ cls := "ShadowTheatreModel", name := "partOf", desc := "(III)I" } : Jvm.MethodName) ∈ qw_tw := qw_in6 11 rfl rfl
theorem tz_1285 : Jvm.Cond.code ({ cls := "ShadowTheatreModel", name := "partOf", desc := "(III)I" } : Jvm.MethodName) prog_14_method_25_code (3 : Nat) (Option.some Jvm.ClassFile.FieldType.int) ∈ qw_tw := qw_in6 12 rfl rfl
theorem tz_1286 : Jvm.Cond.methodLink "ShadowTheatreModel" (103 : Nat) ({ cls := "ShadowTheatreModel", name := "figureOf", desc := "(III)I" } : Jvm.MethodName) ∈ qw_tw := qw_in6 13 rfl rfl
theorem tz_1287 : Jvm.Cond.static ({ cls := "ShadowTheatreModel", name := "figureOf", desc := "(III)I" } : Jvm.MethodName) ∈ qw_tw := qw_in6 14 rfl rfl
theorem tz_1288 : Jvm.Cond.code ({ cls := "ShadowTheatreModel", name := "figureOf", desc := "(III)I" } : Jvm.MethodName) prog_14_method_23_code (3 : Nat) (Option.some Jvm.ClassFile.FieldType.int) ∈ qw_tw := qw_in6 15 rfl rfl
theorem tz_1289 : Jvm.Cond.methodLink "ShadowTheatreModel" (106 : Nat) ({ cls := "ShadowTheatreModel", name := "colourOf", desc := "(I)I" } : Jvm.MethodName) ∈ qw_tw := qw_in6 16 rfl rfl
theorem tz_1290 : Jvm.Cond.static ({ cls := "ShadowTheatreModel", name := "colourOf", desc := "(I)I" } : Jvm.MethodName) ∈ qw_tw := qw_in6 17 rfl rfl
theorem tz_1291 : Jvm.Cond.code ({ cls := "ShadowTheatreModel", name := "colourOf", desc := "(I)I" } : Jvm.MethodName) prog_14_method_24_code (1 : Nat) (Option.some Jvm.ClassFile.FieldType.int) ∈ qw_tw := qw_in6 18 rfl rfl
theorem tz_1292 : Jvm.Cond.methodLink "ShadowTheatreModel" (136 : Nat) ({ cls := "ShadowTheatreModel", name := "readsCues", desc := "()I" } : Jvm.MethodName) ∈ qw_tw := qw_in6 19 rfl rfl
theorem tz_1294 : Jvm.Cond.instanceMethod ({ cls := "ShadowTheatreModel", name := "readsCues", desc := "()I" } : Jvm.MethodName) ∈ qw_tw := qw_in6 21 rfl rfl
theorem tz_1295 : Jvm.Cond.code ({ cls := "ShadowTheatreModel", name := "readsCues", desc := "()I" } : Jvm.MethodName) prog_14_method_29_code (6 : Nat) (Option.some Jvm.ClassFile.FieldType.int) ∈ qw_tw := qw_in6 22 rfl rfl
theorem tz_1296 : Jvm.Cond.methodLink "ShadowTheatreModel" (115 : Nat) ({ cls := "ShadowTheatreModel", name := "stills", desc := "(I)I" } : Jvm.MethodName) ∈ qw_tw := qw_in6 23 rfl rfl
theorem tz_1298 : Jvm.Cond.instanceMethod ({ cls := "ShadowTheatreModel", name := "stills", desc := "(I)I" } : Jvm.MethodName) ∈ qw_tw := qw_in6 25 rfl rfl
theorem tz_1299 : Jvm.Cond.code ({ cls := "ShadowTheatreModel", name := "stills", desc := "(I)I" } : Jvm.MethodName) prog_14_method_27_code (3 : Nat) (Option.some Jvm.ClassFile.FieldType.int) ∈ qw_tw := qw_in6 26 rfl rfl
theorem tz_1300 : Jvm.Cond.constantLong "ShadowTheatreModel" (118 : Nat) (97 : Int64) ∈ qw_tw := qw_in6 27 rfl rfl
theorem tz_1301 : Jvm.Cond.constantLong "ShadowTheatreModel" (120 : Nat) (104 : Int64) ∈ qw_tw := qw_in6 28 rfl rfl
theorem tz_1302 : Jvm.Cond.methodLink "ShadowTheatreModel" (122 : Nat) ({ cls := "ShadowTheatreModel", name := "wayOf", desc := "(I)I" } : Jvm.MethodName) ∈ qw_tw := qw_in6 29 rfl rfl
theorem tz_1303 : Jvm.Cond.static ({ cls := "ShadowTheatreModel", name := "wayOf", desc := "(I)I" } : Jvm.MethodName) ∈ qw_tw := qw_in6 30 rfl rfl
theorem tz_1304 : Jvm.Cond.code ({ cls := "ShadowTheatreModel", name := "wayOf", desc := "(I)I" } : Jvm.MethodName) prog_14_method_28_code (1 : Nat) (Option.some Jvm.ClassFile.FieldType.int) ∈ qw_tw := qw_in6 31 rfl rfl
theorem tz_1305 : Jvm.Cond.methodLink "ShadowTheatreModel" (139 : Nat) ({ cls := "ShadowTheatreModel", name := "readsPicture", desc := "()I" } : Jvm.MethodName) ∈ qw_tw := qw_in6 32 rfl rfl
theorem tz_1307 : Jvm.Cond.instanceMethod ({ cls := "ShadowTheatreModel", name := "readsPicture", desc := "()I" } : Jvm.MethodName) ∈ qw_tw := qw_in6 34 rfl rfl
theorem tz_1308 : Jvm.Cond.code ({ cls := "ShadowTheatreModel", name := "readsPicture", desc := "()I" } : Jvm.MethodName) prog_14_method_31_code (3 : Nat) (Option.some Jvm.ClassFile.FieldType.int) ∈ qw_tw := qw_in6 35 rfl rfl
theorem tz_1309 : Jvm.Cond.methodLink "ShadowTheatreModel" (125 : Nat) ({ cls := "ShadowTheatreModel", name := "blank", desc := "(I)I" } : Jvm.MethodName) ∈ qw_tw := qw_in6 36 rfl rfl
theorem tz_1311 : Jvm.Cond.instanceMethod ({ cls := "ShadowTheatreModel", name := "blank", desc := "(I)I" } : Jvm.MethodName) ∈ qw_tw := qw_in6 38 rfl rfl
theorem tz_1312 : Jvm.Cond.code ({ cls := "ShadowTheatreModel", name := "blank", desc := "(I)I" } : Jvm.MethodName) prog_14_method_30_code (3 : Nat) (Option.some Jvm.ClassFile.FieldType.int) ∈ qw_tw := qw_in6 39 rfl rfl
theorem tz_1313 : Jvm.Cond.constantLong "ShadowTheatreModel" (128 : Nat) (48 : Int64) ∈ qw_tw := qw_in6 40 rfl rfl
theorem tz_1314 : Jvm.Cond.constantLong "ShadowTheatreModel" (130 : Nat) (55 : Int64) ∈ qw_tw := qw_in6 41 rfl rfl
theorem tz_1319 : Jvm.Cond.methodLink "ShadowTheatreModel" (149 : Nat) ({ cls := "ShadowTheatreModel", name := "isFigure", desc := "(I)Z" } : Jvm.MethodName) ∈ qw_tw := qw_in6 46 rfl rfl
theorem tz_1321 : Jvm.Cond.instanceMethod ({ cls := "ShadowTheatreModel", name := "isFigure", desc := "(I)Z" } : Jvm.MethodName) ∈ qw_tw := qw_in6 48 rfl rfl
theorem tz_1322 : Jvm.Cond.code ({ cls := "ShadowTheatreModel", name := "isFigure", desc := "(I)Z" } : Jvm.MethodName) prog_14_method_34_code (2 : Nat) (Option.some Jvm.ClassFile.FieldType.boolean) ∈ qw_tw := qw_in6 49 rfl rfl
theorem tz_1323 : Jvm.Cond.constantLong "ShadowTheatreModel" (152 : Nat) (9 : Int64) ∈ qw_tw := qw_in6 50 rfl rfl
theorem tz_1324 : Jvm.Cond.methodLink "ShadowTheatreModel" (154 : Nat) ({ cls := "ShadowTheatreModel", name := "figureBy", desc := "(II)I" } : Jvm.MethodName) ∈ qw_tw := qw_in6 51 rfl rfl
theorem tz_1326 : Jvm.Cond.instanceMethod ({ cls := "ShadowTheatreModel", name := "figureBy", desc := "(II)I" } : Jvm.MethodName) ∈ qw_tw := qw_in6 53 rfl rfl
theorem tz_1327 : Jvm.Cond.code ({ cls := "ShadowTheatreModel", name := "figureBy", desc := "(II)I" } : Jvm.MethodName) prog_14_method_37_code (3 : Nat) (Option.some Jvm.ClassFile.FieldType.int) ∈ qw_tw := qw_in6 54 rfl rfl
theorem tz_1332 : Jvm.Cond.methodLink "ShadowTheatreModel" (157 : Nat) ({ cls := "ShadowTheatreModel", name := "isStep", desc := "(I)Z" } : Jvm.MethodName) ∈ qw_tw := qw_in6 59 rfl rfl
theorem tz_1333 : Jvm.Cond.static ({ cls := "ShadowTheatreModel", name := "isStep", desc := "(I)Z" } : Jvm.MethodName) ∈ qw_tw := qw_in6 60 rfl rfl
theorem tz_1334 : Jvm.Cond.code ({ cls := "ShadowTheatreModel", name := "isStep", desc := "(I)Z" } : Jvm.MethodName) prog_14_method_35_code (1 : Nat) (Option.some Jvm.ClassFile.FieldType.boolean) ∈ qw_tw := qw_in6 61 rfl rfl
theorem tz_1335 : Jvm.Cond.constantLong "ShadowTheatreModel" (145 : Nat) (19 : Int64) ∈ qw_tw := qw_in6 62 rfl rfl
theorem tz_1336 : Jvm.Cond.methodLink "ShadowTheatreModel" (160 : Nat) ({ cls := "ShadowTheatreModel", name := "isTwo", desc := "(I)Z" } : Jvm.MethodName) ∈ qw_tw := qw_in6 63 rfl rfl
theorem tz_1337 : Jvm.Cond.static ({ cls := "ShadowTheatreModel", name := "isTwo", desc := "(I)Z" } : Jvm.MethodName) ∈ qw_tw := qw_in6 64 rfl rfl
theorem tz_1338 : Jvm.Cond.code ({ cls := "ShadowTheatreModel", name := "isTwo", desc := "(I)Z" } : Jvm.MethodName) prog_14_method_5_code (1 : Nat) (Option.some Jvm.ClassFile.FieldType.boolean) ∈ qw_tw := qw_in6 65 rfl rfl
theorem tz_1339 : Jvm.Cond.methodLink "ShadowTheatreModel" (163 : Nat) ({ cls := "ShadowTheatreModel", name := "cueBy", desc := "(II)I" } : Jvm.MethodName) ∈ qw_tw := qw_in6 66 rfl rfl
theorem tz_1341 : Jvm.Cond.instanceMethod ({ cls := "ShadowTheatreModel", name := "cueBy", desc := "(II)I" } : Jvm.MethodName) ∈ qw_tw := qw_in6 68 rfl rfl
theorem tz_1342 : Jvm.Cond.code ({ cls := "ShadowTheatreModel", name := "cueBy", desc := "(II)I" } : Jvm.MethodName) prog_14_method_39_code (3 : Nat) (Option.some Jvm.ClassFile.FieldType.int) ∈ qw_tw := qw_in6 69 rfl rfl
theorem tz_1347 : Jvm.Cond.methodLink "ShadowTheatreModel" (166 : Nat) ({ cls := "ShadowTheatreModel", name := "isCell", desc := "(I)Z" } : Jvm.MethodName) ∈ qw_tw := qw_in6 74 rfl rfl
theorem tz_1348 : Jvm.Cond.static ({ cls := "ShadowTheatreModel", name := "isCell", desc := "(I)Z" } : Jvm.MethodName) ∈ qw_tw := qw_in6 75 rfl rfl
theorem tz_1349 : Jvm.Cond.code ({ cls := "ShadowTheatreModel", name := "isCell", desc := "(I)Z" } : Jvm.MethodName) prog_14_method_36_code (1 : Nat) (Option.some Jvm.ClassFile.FieldType.boolean) ∈ qw_tw := qw_in6 76 rfl rfl
theorem tz_1350 : Jvm.Cond.constantLong "ShadowTheatreModel" (147 : Nat) (31 : Int64) ∈ qw_tw := qw_in6 77 rfl rfl
theorem tz_1356 : Jvm.Cond.instanceMethod ({ cls := "ShadowTheatreModel", name := "flicker", desc := "(I)I" } : Jvm.MethodName) ∈ qw_tw := qw_in6 83 rfl rfl
theorem tz_1357 : Jvm.Cond.selects "ShadowTheatreModel" ({ cls := "ShadowTheatreModel", name := "flicker", desc := "(I)I" } : Jvm.MethodName) ({ cls := "ShadowTheatreModel", name := "flicker", desc := "(I)I" } : Jvm.MethodName) ∈ qw_tw := qw_in6 84 rfl rfl
theorem tz_1358 : Jvm.Cond.code ({ cls := "ShadowTheatreModel", name := "flicker", desc := "(I)I" } : Jvm.MethodName) prog_14_method_43_code (2 : Nat) (Option.some Jvm.ClassFile.FieldType.int) ∈ qw_tw := qw_in6 85 rfl rfl
theorem tz_1367 : Jvm.Cond.methodLink "ShadowTheatreModel" (172 : Nat) ({ cls := "ShadowTheatreModel", name := "flicker", desc := "(I)I" } : Jvm.MethodName) ∈ qw_tw := qw_in6 94 rfl rfl
theorem tz_1372 : Jvm.Cond.methodLink "ShadowTheatreModel" (208 : Nat) ({ cls := "ShadowTheatreModel", name := "find", desc := "()V" } : Jvm.MethodName) ∈ qw_tw := qw_in6 99 rfl rfl
theorem tz_1374 : Jvm.Cond.instanceMethod ({ cls := "ShadowTheatreModel", name := "find", desc := "()V" } : Jvm.MethodName) ∈ qw_tw := qw_in6 101 rfl rfl
theorem tz_1375 : Jvm.Cond.code ({ cls := "ShadowTheatreModel", name := "find", desc := "()V" } : Jvm.MethodName) prog_14_method_50_code (1 : Nat) (Option.none : Option Jvm.ClassFile.FieldType) ∈ qw_tw := qw_in6 102 rfl rfl
theorem tz_1376 : Jvm.Cond.methodLink "ShadowTheatreModel" (195 : Nat) ({ cls := "ShadowTheatreModel", name := "lives", desc := "()V" } : Jvm.MethodName) ∈ qw_tw := qw_in6 103 rfl rfl
theorem tz_1378 : Jvm.Cond.instanceMethod ({ cls := "ShadowTheatreModel", name := "lives", desc := "()V" } : Jvm.MethodName) ∈ qw_tw := qw_in6 105 rfl rfl
theorem tz_1379 : Jvm.Cond.code ({ cls := "ShadowTheatreModel", name := "lives", desc := "()V" } : Jvm.MethodName) prog_14_method_49_code (2 : Nat) (Option.none : Option Jvm.ClassFile.FieldType) ∈ qw_tw := qw_in6 106 rfl rfl
theorem tz_1380 : Jvm.Cond.methodLink "ShadowTheatreModel" (183 : Nat) ({ cls := "ShadowTheatreModel", name := "isIn", desc := "(II)Z" } : Jvm.MethodName) ∈ qw_tw := qw_in6 107 rfl rfl
theorem tz_1381 : Jvm.Cond.static ({ cls := "ShadowTheatreModel", name := "isIn", desc := "(II)Z" } : Jvm.MethodName) ∈ qw_tw := qw_in6 108 rfl rfl
theorem tz_1382 : Jvm.Cond.code ({ cls := "ShadowTheatreModel", name := "isIn", desc := "(II)Z" } : Jvm.MethodName) prog_14_method_6_code (2 : Nat) (Option.some Jvm.ClassFile.FieldType.boolean) ∈ qw_tw := qw_in6 109 rfl rfl
theorem tz_1383 : Jvm.Cond.methodLink "ShadowTheatreModel" (187 : Nat) ({ cls := "ShadowTheatreModel", name := "goes", desc := "(II)V" } : Jvm.MethodName) ∈ qw_tw := qw_in6 110 rfl rfl
theorem tz_1385 : Jvm.Cond.instanceMethod ({ cls := "ShadowTheatreModel", name := "goes", desc := "(II)V" } : Jvm.MethodName) ∈ qw_tw := qw_in6 112 rfl rfl
theorem tz_1386 : Jvm.Cond.code ({ cls := "ShadowTheatreModel", name := "goes", desc := "(II)V" } : Jvm.MethodName) prog_14_method_47_code (3 : Nat) (Option.none : Option Jvm.ClassFile.FieldType) ∈ qw_tw := qw_in6 113 rfl rfl
theorem tz_1387 : Jvm.Cond.methodLink "ShadowTheatreModel" (174 : Nat) ({ cls := "ShadowTheatreModel", name := "greater", desc := "(II)I" } : Jvm.MethodName) ∈ qw_tw := qw_in6 114 rfl rfl
theorem tz_1388 : Jvm.Cond.static ({ cls := "ShadowTheatreModel", name := "greater", desc := "(II)I" } : Jvm.MethodName) ∈ qw_tw := qw_in6 115 rfl rfl
theorem tz_1389 : Jvm.Cond.code ({ cls := "ShadowTheatreModel", name := "greater", desc := "(II)I" } : Jvm.MethodName) prog_14_method_8_code (2 : Nat) (Option.some Jvm.ClassFile.FieldType.int) ∈ qw_tw := qw_in6 116 rfl rfl
theorem tz_1390 : Jvm.Cond.methodLink "ShadowTheatreModel" (177 : Nat) ({ cls := "ShadowTheatreModel", name := "lesser", desc := "(II)I" } : Jvm.MethodName) ∈ qw_tw := qw_in6 117 rfl rfl
theorem tz_1391 : Jvm.Cond.static ({ cls := "ShadowTheatreModel", name := "lesser", desc := "(II)I" } : Jvm.MethodName) ∈ qw_tw := qw_in6 118 rfl rfl
theorem tz_1392 : Jvm.Cond.code ({ cls := "ShadowTheatreModel", name := "lesser", desc := "(II)I" } : Jvm.MethodName) prog_14_method_7_code (2 : Nat) (Option.some Jvm.ClassFile.FieldType.int) ∈ qw_tw := qw_in6 119 rfl rfl
theorem tz_1393 : Jvm.Cond.methodLink "ShadowTheatreModel" (191 : Nat) ({ cls := "ShadowTheatreModel", name := "keeps", desc := "(I)V" } : Jvm.MethodName) ∈ qw_tw := qw_in6 120 rfl rfl
theorem tz_1395 : Jvm.Cond.instanceMethod ({ cls := "ShadowTheatreModel", name := "keeps", desc := "(I)V" } : Jvm.MethodName) ∈ qw_tw := qw_in6 122 rfl rfl
theorem tz_1396 : Jvm.Cond.code ({ cls := "ShadowTheatreModel", name := "keeps", desc := "(I)V" } : Jvm.MethodName) prog_14_method_48_code (3 : Nat) (Option.none : Option Jvm.ClassFile.FieldType) ∈ qw_tw := qw_in6 123 rfl rfl
theorem tz_1397 : Jvm.Cond.methodLink "ShadowTheatreModel" (211 : Nat) ({ cls := "ShadowTheatreModel", name := "lightOf", desc := "(II)I" } : Jvm.MethodName) ∈ qw_tw := qw_in6 124 rfl rfl
theorem tz_1399 : Jvm.Cond.instanceMethod ({ cls := "ShadowTheatreModel", name := "lightOf", desc := "(II)I" } : Jvm.MethodName) ∈ qw_tw := qw_in6 126 rfl rfl
theorem tz_1400 : Jvm.Cond.code ({ cls := "ShadowTheatreModel", name := "lightOf", desc := "(II)I" } : Jvm.MethodName) prog_14_method_53_code (5 : Nat) (Option.some Jvm.ClassFile.FieldType.int) ∈ qw_tw := qw_in6 127 rfl rfl
theorem tz_1401 : Jvm.Cond.methodLink "ShadowTheatreModel" (205 : Nat) ({ cls := "ShadowTheatreModel", name := "isOut", desc := "(I)Z" } : Jvm.MethodName) ∈ qw_tw := qw_in6 128 rfl rfl
theorem tz_1403 : Jvm.Cond.instanceMethod ({ cls := "ShadowTheatreModel", name := "isOut", desc := "(I)Z" } : Jvm.MethodName) ∈ qw_tw := qw_in6 130 rfl rfl
theorem tz_1404 : Jvm.Cond.code ({ cls := "ShadowTheatreModel", name := "isOut", desc := "(I)Z" } : Jvm.MethodName) prog_14_method_46_code (4 : Nat) (Option.some Jvm.ClassFile.FieldType.boolean) ∈ qw_tw := qw_in6 131 rfl rfl
theorem tz_1405 : Jvm.Cond.methodLink "ShadowTheatreModel" (201 : Nat) ({ cls := "ShadowTheatreModel", name := "isOver", desc := "(III)Z" } : Jvm.MethodName) ∈ qw_tw := qw_in6 132 rfl rfl
theorem tz_1407 : Jvm.Cond.instanceMethod ({ cls := "ShadowTheatreModel", name := "isOver", desc := "(III)Z" } : Jvm.MethodName) ∈ qw_tw := qw_in6 134 rfl rfl
theorem tz_1408 : Jvm.Cond.code ({ cls := "ShadowTheatreModel", name := "isOver", desc := "(III)Z" } : Jvm.MethodName) prog_14_method_51_code (5 : Nat) (Option.some Jvm.ClassFile.FieldType.boolean) ∈ qw_tw := qw_in6 135 rfl rfl
theorem tz_1413 : Jvm.Cond.methodLink "ShadowTheatreModel" (214 : Nat) ({ cls := "ShadowTheatreModel", name := "coversOf", desc := "(II)I" } : Jvm.MethodName) ∈ qw_tw := qw_in6 140 rfl rfl
theorem tz_1415 : Jvm.Cond.instanceMethod ({ cls := "ShadowTheatreModel", name := "coversOf", desc := "(II)I" } : Jvm.MethodName) ∈ qw_tw := qw_in6 142 rfl rfl
theorem tz_1416 : Jvm.Cond.code ({ cls := "ShadowTheatreModel", name := "coversOf", desc := "(II)I" } : Jvm.MethodName) prog_14_method_52_code (5 : Nat) (Option.some Jvm.ClassFile.FieldType.int) ∈ qw_tw := qw_in6 143 rfl rfl
theorem tz_1421 : Jvm.Cond.methodLink "ShadowTheatreModel" (217 : Nat) ({ cls := "ShadowTheatreModel", name := "atOf", desc := "(III)I" } : Jvm.MethodName) ∈ qw_tw := qw_in6 148 rfl rfl
theorem tz_1423 : Jvm.Cond.instanceMethod ({ cls := "ShadowTheatreModel", name := "atOf", desc := "(III)I" } : Jvm.MethodName) ∈ qw_tw := qw_in6 150 rfl rfl
theorem tz_1424 : Jvm.Cond.code ({ cls := "ShadowTheatreModel", name := "atOf", desc := "(III)I" } : Jvm.MethodName) prog_14_method_56_code (8 : Nat) (Option.some Jvm.ClassFile.FieldType.int) ∈ qw_tw := qw_in6 151 rfl rfl
theorem tz_1429 : Jvm.Cond.methodLink "ShadowTheatreModel" (220 : Nat) ({ cls := "ShadowTheatreModel", name := "falseOf", desc := "(I)I" } : Jvm.MethodName) ∈ qw_tw := qw_in6 156 rfl rfl
theorem tz_1431 : Jvm.Cond.instanceMethod ({ cls := "ShadowTheatreModel", name := "falseOf", desc := "(I)I" } : Jvm.MethodName) ∈ qw_tw := qw_in6 158 rfl rfl
theorem tz_1432 : Jvm.Cond.code ({ cls := "ShadowTheatreModel", name := "falseOf", desc := "(I)I" } : Jvm.MethodName) prog_14_method_58_code (4 : Nat) (Option.some Jvm.ClassFile.FieldType.int) ∈ qw_tw := qw_in6 159 rfl rfl
theorem tz_1433 : Jvm.Cond.methodLink "ShadowTheatreModel" (223 : Nat) ({ cls := "ShadowTheatreModel", name := "darkOf", desc := "(I)I" } : Jvm.MethodName) ∈ qw_tw := qw_in6 160 rfl rfl
theorem tz_1435 : Jvm.Cond.instanceMethod ({ cls := "ShadowTheatreModel", name := "darkOf", desc := "(I)I" } : Jvm.MethodName) ∈ qw_tw := qw_in6 162 rfl rfl
theorem tz_1436 : Jvm.Cond.code ({ cls := "ShadowTheatreModel", name := "darkOf", desc := "(I)I" } : Jvm.MethodName) prog_14_method_59_code (4 : Nat) (Option.some Jvm.ClassFile.FieldType.int) ∈ qw_tw := qw_in6 163 rfl rfl
theorem tz_1441 : Jvm.Cond.methodLink "ShadowTheatreModel" (232 : Nat) ({ cls := "ShadowTheatreModel", name := "shownBy", desc := "(I)I" } : Jvm.MethodName) ∈ qw_tw := qw_in6 168 rfl rfl
theorem tz_1443 : Jvm.Cond.instanceMethod ({ cls := "ShadowTheatreModel", name := "shownBy", desc := "(I)I" } : Jvm.MethodName) ∈ qw_tw := qw_in6 170 rfl rfl
theorem tz_1444 : Jvm.Cond.code ({ cls := "ShadowTheatreModel", name := "shownBy", desc := "(I)I" } : Jvm.MethodName) prog_14_method_63_code (6 : Nat) (Option.some Jvm.ClassFile.FieldType.int) ∈ qw_tw := qw_in6 171 rfl rfl
theorem tz_1445 : Jvm.Cond.methodLink "ShadowTheatreModel" (229 : Nat) ({ cls := "ShadowTheatreModel", name := "isShown", desc := "(I)Z" } : Jvm.MethodName) ∈ qw_tw := qw_in6 172 rfl rfl
theorem tz_1447 : Jvm.Cond.instanceMethod ({ cls := "ShadowTheatreModel", name := "isShown", desc := "(I)Z" } : Jvm.MethodName) ∈ qw_tw := qw_in6 174 rfl rfl
theorem tz_1448 : Jvm.Cond.code ({ cls := "ShadowTheatreModel", name := "isShown", desc := "(I)Z" } : Jvm.MethodName) prog_14_method_62_code (2 : Nat) (Option.some Jvm.ClassFile.FieldType.boolean) ∈ qw_tw := qw_in6 175 rfl rfl
theorem tz_1449 : Jvm.Cond.methodLink "ShadowTheatreModel" (226 : Nat) ({ cls := "ShadowTheatreModel", name := "cellsTold", desc := "()I" } : Jvm.MethodName) ∈ qw_tw := qw_in6 176 rfl rfl
theorem tz_1451 : Jvm.Cond.instanceMethod ({ cls := "ShadowTheatreModel", name := "cellsTold", desc := "()I" } : Jvm.MethodName) ∈ qw_tw := qw_in6 178 rfl rfl
theorem tz_1452 : Jvm.Cond.code ({ cls := "ShadowTheatreModel", name := "cellsTold", desc := "()I" } : Jvm.MethodName) prog_14_method_61_code (3 : Nat) (Option.some Jvm.ClassFile.FieldType.int) ∈ qw_tw := qw_in6 179 rfl rfl
theorem tz_1457 : Jvm.Cond.methodLink "ShadowTheatreModel" (238 : Nat) ({ cls := "ShadowTheatreModel", name := "touchedBy", desc := "(I)I" } : Jvm.MethodName) ∈ qw_tw := qw_in6 184 rfl rfl
theorem tz_1459 : Jvm.Cond.instanceMethod ({ cls := "ShadowTheatreModel", name := "touchedBy", desc := "(I)I" } : Jvm.MethodName) ∈ qw_tw := qw_in6 186 rfl rfl
theorem tz_1460 : Jvm.Cond.code ({ cls := "ShadowTheatreModel", name := "touchedBy", desc := "(I)I" } : Jvm.MethodName) prog_14_method_66_code (5 : Nat) (Option.some Jvm.ClassFile.FieldType.int) ∈ qw_tw := qw_in6 187 rfl rfl
theorem tz_1461 : Jvm.Cond.methodLink "ShadowTheatreModel" (235 : Nat) ({ cls := "ShadowTheatreModel", name := "isTouching", desc := "(III)Z" } : Jvm.MethodName) ∈ qw_tw := qw_in6 188 rfl rfl
theorem tz_1463 : Jvm.Cond.instanceMethod ({ cls := "ShadowTheatreModel", name := "isTouching", desc := "(III)Z" } : Jvm.MethodName) ∈ qw_tw := qw_in6 190 rfl rfl
theorem tz_1464 : Jvm.Cond.code ({ cls := "ShadowTheatreModel", name := "isTouching", desc := "(III)Z" } : Jvm.MethodName) prog_14_method_65_code (6 : Nat) (Option.some Jvm.ClassFile.FieldType.boolean) ∈ qw_tw := qw_in6 191 rfl rfl
theorem tz_1469 : Jvm.Cond.methodLink "ShadowTheatreModel" (241 : Nat) ({ cls := "ShadowTheatreModel", name := "darkestNow", desc := "()I" } : Jvm.MethodName) ∈ qw_tw := qw_in6 196 rfl rfl
theorem tz_1471 : Jvm.Cond.instanceMethod ({ cls := "ShadowTheatreModel", name := "darkestNow", desc := "()I" } : Jvm.MethodName) ∈ qw_tw := qw_in6 198 rfl rfl
theorem tz_1472 : Jvm.Cond.code ({ cls := "ShadowTheatreModel", name := "darkestNow", desc := "()I" } : Jvm.MethodName) prog_14_method_68_code (5 : Nat) (Option.some Jvm.ClassFile.FieldType.int) ∈ qw_tw := qw_in6 199 rfl rfl
theorem tz_1477 : Jvm.Cond.methodLink "ShadowTheatreModel" (244 : Nat) ({ cls := "ShadowTheatreModel", name := "hangOf", desc := "(III)I" } : Jvm.MethodName) ∈ qw_tw := qw_in6 204 rfl rfl
theorem tz_1479 : Jvm.Cond.instanceMethod ({ cls := "ShadowTheatreModel", name := "hangOf", desc := "(III)I" } : Jvm.MethodName) ∈ qw_tw := qw_in6 206 rfl rfl
theorem tz_1480 : Jvm.Cond.code ({ cls := "ShadowTheatreModel", name := "hangOf", desc := "(III)I" } : Jvm.MethodName) prog_14_method_70_code (10 : Nat) (Option.some Jvm.ClassFile.FieldType.int) ∈ qw_tw := qw_in6 207 rfl rfl
theorem tz_1485 : Jvm.Cond.methodLink "ShadowTheatreModel" (247 : Nat) ({ cls := "ShadowTheatreModel", name := "shiftOf", desc := "(II)I" } : Jvm.MethodName) ∈ qw_tw := qw_in6 212 rfl rfl
theorem tz_1487 : Jvm.Cond.instanceMethod ({ cls := "ShadowTheatreModel", name := "shiftOf", desc := "(II)I" } : Jvm.MethodName) ∈ qw_tw := qw_in6 214 rfl rfl
theorem tz_1488 : Jvm.Cond.code ({ cls := "ShadowTheatreModel", name := "shiftOf", desc := "(II)I" } : Jvm.MethodName) prog_14_method_72_code (8 : Nat) (Option.some Jvm.ClassFile.FieldType.int) ∈ qw_tw := qw_in6 215 rfl rfl
theorem tz_1493 : Jvm.Cond.constantLong "ShadowTheatreModel" (253 : Nat) (-1 : Int64) ∈ qw_tw := qw_in6 220 rfl rfl
theorem tz_1494 : Jvm.Cond.methodLink "ShadowTheatreModel" (255 : Nat) ({ cls := "ShadowTheatreModel", name := "moreOf", desc := "(I)I" } : Jvm.MethodName) ∈ qw_tw := qw_in6 221 rfl rfl
theorem tz_1496 : Jvm.Cond.instanceMethod ({ cls := "ShadowTheatreModel", name := "moreOf", desc := "(I)I" } : Jvm.MethodName) ∈ qw_tw := qw_in6 223 rfl rfl
theorem tz_1497 : Jvm.Cond.code ({ cls := "ShadowTheatreModel", name := "moreOf", desc := "(I)I" } : Jvm.MethodName) prog_14_method_75_code (4 : Nat) (Option.some Jvm.ClassFile.FieldType.int) ∈ qw_tw := qw_in6 224 rfl rfl
theorem tz_1498 : Jvm.Cond.methodLink "ShadowTheatreModel" (250 : Nat) ({ cls := "ShadowTheatreModel", name := "isShownBy", desc := "(II)Z" } : Jvm.MethodName) ∈ qw_tw := qw_in6 225 rfl rfl
theorem tz_1500 : Jvm.Cond.instanceMethod ({ cls := "ShadowTheatreModel", name := "isShownBy", desc := "(II)Z" } : Jvm.MethodName) ∈ qw_tw := qw_in6 227 rfl rfl
theorem tz_1501 : Jvm.Cond.code ({ cls := "ShadowTheatreModel", name := "isShownBy", desc := "(II)Z" } : Jvm.MethodName) prog_14_method_74_code (3 : Nat) (Option.some Jvm.ClassFile.FieldType.boolean) ∈ qw_tw := qw_in6 228 rfl rfl
theorem tz_1506 : Jvm.Cond.methodLink "ShadowTheatreModel" (261 : Nat) ({ cls := "ShadowTheatreModel", name := "leaveOf", desc := "(II)I" } : Jvm.MethodName) ∈ qw_tw := qw_in6 233 rfl rfl
theorem tz_1508 : Jvm.Cond.instanceMethod ({ cls := "ShadowTheatreModel", name := "leaveOf", desc := "(II)I" } : Jvm.MethodName) ∈ qw_tw := qw_in6 235 rfl rfl
theorem tz_1509 : Jvm.Cond.code ({ cls := "ShadowTheatreModel", name := "leaveOf", desc := "(II)I" } : Jvm.MethodName) prog_14_method_78_code (5 : Nat) (Option.some Jvm.ClassFile.FieldType.int) ∈ qw_tw := qw_in6 236 rfl rfl
theorem tz_1510 : Jvm.Cond.methodLink "ShadowTheatreModel" (258 : Nat) ({ cls := "ShadowTheatreModel", name := "isShownWithout", desc := "(II)Z" } : Jvm.MethodName) ∈ qw_tw := qw_in6 237 rfl rfl
theorem tz_1512 : Jvm.Cond.instanceMethod ({ cls := "ShadowTheatreModel", name := "isShownWithout", desc := "(II)Z" } : Jvm.MethodName) ∈ qw_tw := qw_in6 239 rfl rfl
theorem tz_1513 : Jvm.Cond.code ({ cls := "ShadowTheatreModel", name := "isShownWithout", desc := "(II)Z" } : Jvm.MethodName) prog_14_method_77_code (4 : Nat) (Option.some Jvm.ClassFile.FieldType.boolean) ∈ qw_tw := qw_in7 0 rfl rfl
theorem tz_1518 : Jvm.Cond.constantLong "ShadowTheatreModel" (264 : Nat) (7 : Int64) ∈ qw_tw := qw_in7 5 rfl rfl
theorem tz_1527 : Jvm.Cond.methodLink "ShadowTheatreModel" (273 : Nat) ({ cls := "ShadowTheatreModel", name := "neverNow", desc := "()I" } : Jvm.MethodName) ∈ qw_tw := qw_in7 14 rfl rfl
theorem tz_1529 : Jvm.Cond.instanceMethod ({ cls := "ShadowTheatreModel", name := "neverNow", desc := "()I" } : Jvm.MethodName) ∈ qw_tw := qw_in7 16 rfl rfl
theorem tz_1530 : Jvm.Cond.code ({ cls := "ShadowTheatreModel", name := "neverNow", desc := "()I" } : Jvm.MethodName) prog_14_method_83_code (3 : Nat) (Option.some Jvm.ClassFile.FieldType.int) ∈ qw_tw := qw_in7 17 rfl rfl
theorem tz_1531 : Jvm.Cond.methodLink "ShadowTheatreModel" (269 : Nat) ({ cls := "ShadowTheatreModel", name := "isSeen", desc := "()Z" } : Jvm.MethodName) ∈ qw_tw := qw_in7 18 rfl rfl
theorem tz_1533 : Jvm.Cond.instanceMethod ({ cls := "ShadowTheatreModel", name := "isSeen", desc := "()Z" } : Jvm.MethodName) ∈ qw_tw := qw_in7 20 rfl rfl
theorem tz_1534 : Jvm.Cond.code ({ cls := "ShadowTheatreModel", name := "isSeen", desc := "()Z" } : Jvm.MethodName) prog_14_method_82_code (3 : Nat) (Option.some Jvm.ClassFile.FieldType.boolean) ∈ qw_tw := qw_in7 21 rfl rfl
theorem tz_1539 : Jvm.Cond.methodLink "ShadowTheatreModel" (282 : Nat) ({ cls := "ShadowTheatreModel", name := "wasOf", desc := "(II)I" } : Jvm.MethodName) ∈ qw_tw := qw_in7 26 rfl rfl
theorem tz_1541 : Jvm.Cond.instanceMethod ({ cls := "ShadowTheatreModel", name := "wasOf", desc := "(II)I" } : Jvm.MethodName) ∈ qw_tw := qw_in7 28 rfl rfl
theorem tz_1542 : Jvm.Cond.code ({ cls := "ShadowTheatreModel", name := "wasOf", desc := "(II)I" } : Jvm.MethodName) prog_14_method_87_code (3 : Nat) (Option.some Jvm.ClassFile.FieldType.int) ∈ qw_tw := qw_in7 29 rfl rfl
theorem tz_1543 : Jvm.Cond.methodLink "ShadowTheatreModel" (276 : Nat) ({ cls := "ShadowTheatreModel", name := "colourBy", desc := "(I)I" } : Jvm.MethodName) ∈ qw_tw := qw_in7 30 rfl rfl
theorem tz_1545 : Jvm.Cond.instanceMethod ({ cls := "ShadowTheatreModel", name := "colourBy", desc := "(I)I" } : Jvm.MethodName) ∈ qw_tw := qw_in7 32 rfl rfl
theorem tz_1546 : Jvm.Cond.code ({ cls := "ShadowTheatreModel", name := "colourBy", desc := "(I)I" } : Jvm.MethodName) prog_14_method_85_code (5 : Nat) (Option.some Jvm.ClassFile.FieldType.int) ∈ qw_tw := qw_in7 33 rfl rfl
theorem tz_1547 : Jvm.Cond.methodLink "ShadowTheatreModel" (279 : Nat) ({ cls := "ShadowTheatreModel", name := "deepOf", desc := "(I)I" } : Jvm.MethodName) ∈ qw_tw := qw_in7 34 rfl rfl
theorem tz_1549 : Jvm.Cond.instanceMethod ({ cls := "ShadowTheatreModel", name := "deepOf", desc := "(I)I" } : Jvm.MethodName) ∈ qw_tw := qw_in7 36 rfl rfl
theorem tz_1550 : Jvm.Cond.code ({ cls := "ShadowTheatreModel", name := "deepOf", desc := "(I)I" } : Jvm.MethodName) prog_14_method_86_code (5 : Nat) (Option.some Jvm.ClassFile.FieldType.int) ∈ qw_tw := qw_in7 37 rfl rfl
theorem tz_1555 : Jvm.Cond.methodLink "ShadowTheatreModel" (285 : Nat) ({ cls := "ShadowTheatreModel", name := "askOf", desc := "(I)I" } : Jvm.MethodName) ∈ qw_tw := qw_in7 42 rfl rfl
theorem tz_1557 : Jvm.Cond.instanceMethod ({ cls := "ShadowTheatreModel", name := "askOf", desc := "(I)I" } : Jvm.MethodName) ∈ qw_tw := qw_in7 44 rfl rfl
theorem tz_1558 : Jvm.Cond.code ({ cls := "ShadowTheatreModel", name := "askOf", desc := "(I)I" } : Jvm.MethodName) prog_14_method_89_code (9 : Nat) (Option.some Jvm.ClassFile.FieldType.int) ∈ qw_tw := qw_in7 45 rfl rfl
theorem tz_1563 : Jvm.Cond.constantLong "ShadowTheatreModel" (292 : Nat) (16 : Int64) ∈ qw_tw := qw_in7 50 rfl rfl
theorem tz_1564 : Jvm.Cond.methodLink "ShadowTheatreModel" (294 : Nat) ({ cls := "ShadowTheatreModel", name := "stumbleOf", desc := "(IIII)J" } : Jvm.MethodName) ∈ qw_tw := qw_in7 51 rfl rfl
theorem tz_1566 : Jvm.Cond.instanceMethod ({ cls := "ShadowTheatreModel", name := "stumbleOf", desc := "(IIII)J" } : Jvm.MethodName) ∈ qw_tw := qw_in7 53 rfl rfl
theorem tz_1567 : Jvm.Cond.code ({ cls := "ShadowTheatreModel", name := "stumbleOf", desc := "(IIII)J" } : Jvm.MethodName) prog_14_method_91_code (11 : Nat) (Option.some Jvm.ClassFile.FieldType.long) ∈ qw_tw := qw_in7 54 rfl rfl
theorem tz_1568 : Jvm.Cond.methodLink "ShadowTheatreModel" (288 : Nat) ({ cls := "ShadowTheatreModel", name := "part", desc := "(JJI)J" } : Jvm.MethodName) ∈ qw_tw := qw_in7 55 rfl rfl
theorem tz_1569 : Jvm.Cond.static ({ cls := "ShadowTheatreModel", name := "part", desc := "(JJI)J" } : Jvm.MethodName) ∈ qw_tw := qw_in7 56 rfl rfl
theorem tz_1570 : Jvm.Cond.code ({ cls := "ShadowTheatreModel", name := "part", desc := "(JJI)J" } : Jvm.MethodName) prog_14_method_9_code (11 : Nat) (Option.some Jvm.ClassFile.FieldType.long) ∈ qw_tw := qw_in7 57 rfl rfl
theorem tz_1571 : Jvm.Cond.methodLink "ShadowTheatreModel" (298 : Nat) ({ cls := "ShadowTheatreModel", name := "no", desc := "(I)J" } : Jvm.MethodName) ∈ qw_tw := qw_in7 58 rfl rfl
theorem tz_1572 : Jvm.Cond.static ({ cls := "ShadowTheatreModel", name := "no", desc := "(I)J" } : Jvm.MethodName) ∈ qw_tw := qw_in7 59 rfl rfl
theorem tz_1573 : Jvm.Cond.code ({ cls := "ShadowTheatreModel", name := "no", desc := "(I)J" } : Jvm.MethodName) prog_14_method_4_code (1 : Nat) (Option.some Jvm.ClassFile.FieldType.long) ∈ qw_tw := qw_in7 60 rfl rfl
theorem tz_1574 : Jvm.Cond.constantLong "ShadowTheatreModel" (68 : Nat) (-9223372036854775808 : Int64) ∈ qw_tw := qw_in7 61 rfl rfl
theorem tz_1579 : Jvm.Cond.constantLong "ShadowTheatreModel" (309 : Nat) (20 : Int64) ∈ qw_tw := qw_in7 66 rfl rfl
theorem tz_1580 : Jvm.Cond.methodLink "ShadowTheatreModel" (311 : Nat) ({ cls := "ShadowTheatreModel", name := "playOf", desc := "(III)I" } : Jvm.MethodName) ∈ qw_tw := qw_in7 67 rfl rfl
theorem tz_1582 : Jvm.Cond.instanceMethod ({ cls := "ShadowTheatreModel", name := "playOf", desc := "(III)I" } : Jvm.MethodName) ∈ qw_tw := qw_in7 69 rfl rfl
theorem tz_1583 : Jvm.Cond.code ({ cls := "ShadowTheatreModel", name := "playOf", desc := "(III)I" } : Jvm.MethodName) prog_14_method_94_code (5 : Nat) (Option.some Jvm.ClassFile.FieldType.int) ∈ qw_tw := qw_in7 70 rfl rfl
theorem tz_1584 : Jvm.Cond.methodLink "ShadowTheatreModel" (306 : Nat) ({ cls := "ShadowTheatreModel", name := "lot", desc := "(I)I" } : Jvm.MethodName) ∈ qw_tw := qw_in7 71 rfl rfl
theorem tz_1586 : Jvm.Cond.instanceMethod ({ cls := "ShadowTheatreModel", name := "lot", desc := "(I)I" } : Jvm.MethodName) ∈ qw_tw := qw_in7 73 rfl rfl
theorem tz_1587 : Jvm.Cond.code ({ cls := "ShadowTheatreModel", name := "lot", desc := "(I)I" } : Jvm.MethodName) prog_14_method_93_code (2 : Nat) (Option.some Jvm.ClassFile.FieldType.int) ∈ qw_tw := qw_in7 74 rfl rfl
theorem tz_1588 : Jvm.Cond.constant "ShadowTheatreModel" (302 : Nat) (1103515245 : Int32) ∈ qw_tw := qw_in7 75 rfl rfl
theorem tz_1594 : Jvm.Cond.instanceMethod ({ cls := "ShadowTheatreModel", name := "count", desc := "(I)I" } : Jvm.MethodName) ∈ qw_tw := qw_in7 81 rfl rfl
theorem tz_1595 : Jvm.Cond.selects "ShadowTheatreModel" ({ cls := "ShadowTheatreModel", name := "count", desc := "(I)I" } : Jvm.MethodName) ({ cls := "ShadowTheatreModel", name := "count", desc := "(I)I" } : Jvm.MethodName) ∈ qw_tw := qw_in7 82 rfl rfl
theorem tz_1596 : Jvm.Cond.code ({ cls := "ShadowTheatreModel", name := "count", desc := "(I)I" } : Jvm.MethodName) prog_14_method_98_code (2 : Nat) (Option.some Jvm.ClassFile.FieldType.int) ∈ qw_tw := qw_in7 83 rfl rfl
theorem tz_1597 : Jvm.Cond.methodLink "ShadowTheatreModel" (314 : Nat) ({ cls := "ShadowTheatreModel", name := "cuesTold", desc := "()I" } : Jvm.MethodName) ∈ qw_tw := qw_in7 84 rfl rfl
theorem tz_1599 : Jvm.Cond.instanceMethod ({ cls := "ShadowTheatreModel", name := "cuesTold", desc := "()I" } : Jvm.MethodName) ∈ qw_tw := qw_in7 86 rfl rfl
theorem tz_1600 : Jvm.Cond.code ({ cls := "ShadowTheatreModel", name := "cuesTold", desc := "()I" } : Jvm.MethodName) prog_14_method_97_code (3 : Nat) (Option.some Jvm.ClassFile.FieldType.int) ∈ qw_tw := qw_in7 87 rfl rfl
theorem tz_1605 : Jvm.Cond.constantLong "ShadowTheatreModel" (321 : Nat) (17 : Int64) ∈ qw_tw := qw_in7 92 rfl rfl
theorem tz_1606 : Jvm.Cond.methodLink "ShadowTheatreModel" (323 : Nat) ({ cls := "ShadowTheatreModel", name := "count", desc := "(I)I" } : Jvm.MethodName) ∈ qw_tw := qw_in7 93 rfl rfl
theorem tz_1607 : Jvm.Cond.methodLink "ShadowTheatreModel" (326 : Nat) ({ cls := "ShadowTheatreModel", name := "tellsFigure", desc := "(JI)J" } : Jvm.MethodName) ∈ qw_tw := qw_in7 94 rfl rfl
theorem tz_1609 : Jvm.Cond.instanceMethod ({ cls := "ShadowTheatreModel", name := "tellsFigure", desc := "(JI)J" } : Jvm.MethodName) ∈ qw_tw := qw_in7 96 rfl rfl
theorem tz_1610 : Jvm.Cond.code ({ cls := "ShadowTheatreModel", name := "tellsFigure", desc := "(JI)J" } : Jvm.MethodName) prog_14_method_100_code (7 : Nat) (Option.some Jvm.ClassFile.FieldType.long) ∈ qw_tw := qw_in7 97 rfl rfl
theorem tz_1611 : Jvm.Cond.methodLink "ShadowTheatreModel" (317 : Nat) ({ cls := "ShadowTheatreModel", name := "tellsAt", desc := "(JII)J" } : Jvm.MethodName) ∈ qw_tw := qw_in7 98 rfl rfl
theorem tz_1613 : Jvm.Cond.instanceMethod ({ cls := "ShadowTheatreModel", name := "tellsAt", desc := "(JII)J" } : Jvm.MethodName) ∈ qw_tw := qw_in7 100 rfl rfl
theorem tz_1614 : Jvm.Cond.code ({ cls := "ShadowTheatreModel", name := "tellsAt", desc := "(JII)J" } : Jvm.MethodName) prog_14_method_99_code (8 : Nat) (Option.some Jvm.ClassFile.FieldType.long) ∈ qw_tw := qw_in7 101 rfl rfl
theorem tz_1615 : Jvm.Cond.methodLink "ShadowTheatreModel" (330 : Nat) ({ cls := "ShadowTheatreModel", name := "tellsStep", desc := "(JI)J" } : Jvm.MethodName) ∈ qw_tw := qw_in7 102 rfl rfl
theorem tz_1617 : Jvm.Cond.instanceMethod ({ cls := "ShadowTheatreModel", name := "tellsStep", desc := "(JI)J" } : Jvm.MethodName) ∈ qw_tw := qw_in7 104 rfl rfl
theorem tz_1618 : Jvm.Cond.code ({ cls := "ShadowTheatreModel", name := "tellsStep", desc := "(JI)J" } : Jvm.MethodName) prog_14_method_101_code (6 : Nat) (Option.some Jvm.ClassFile.FieldType.long) ∈ qw_tw := qw_in7 105 rfl rfl
theorem tz_1619 : Jvm.Cond.fieldLink "java/lang/String" (15 : Nat) "java/lang/String" "coder" "B" ∈ qw_tw := qw_in7 106 rfl rfl
theorem tz_1620 : Jvm.Cond.fieldLink "java/lang/String" (9 : Nat) "java/lang/String" "value" "[B" ∈ qw_tw := qw_in7 107 rfl rfl
end
section
def my_J0_coder : qw_Y := (({ cls := "java/lang/String", name := "coder", desc := "()B" } : Jvm.MethodName), prog_18_method_152_code, 1, (Option.some Jvm.ClassFile.FieldType.byte), 0, 0, 0)
def cd_J0_coder : List (Nat × Instr) := [(0, .getstatic 38), (3, .ifCond .eq 10), (6, .aload_n 0), (7, .getfield 15), (10, .goto 4), (13, .iconst 1), (14, .ireturn)]
theorem co_J0_coder : ∀ q ∈ cd_J0_coder, qw_dec (qw_yb my_J0_coder) q.1 q.2 := fun q h => qw_okb_dec (List.all_eq_true.mp (show cd_J0_coder.all (qw_okb prog_18_method_152_code) = true by decide +kernel) q h)
def my_J0_indexOf : qw_Y := (({ cls := "java/lang/String", name := "indexOf", desc := "(I)I" } : Jvm.MethodName), prog_18_method_79_code, 2, (Option.some Jvm.ClassFile.FieldType.int), 1, 6, 138)
def cd_J0_indexOf : List (Nat × Instr) := [(0, .aload_n 0), (1, .iload_n 1), (2, .iconst 0), (3, .invokevirtual 633), (6, .ireturn)]
theorem co_J0_indexOf : ∀ q ∈ cd_J0_indexOf, qw_dec (qw_yb my_J0_indexOf) q.1 q.2 := fun q h => qw_okb_dec (List.all_eq_true.mp (show cd_J0_indexOf.all (qw_okb prog_18_method_79_code) = true by decide +kernel) q h)
def my_J0_indexOf_III : qw_Y := (({ cls := "java/lang/String", name := "indexOf", desc := "(II)I" } : Jvm.MethodName), prog_18_method_80_code, 3, (Option.some Jvm.ClassFile.FieldType.int), 2, 5, 116)
def cd_J0_indexOf_III : List (Nat × Instr) := [(0, .aload_n 0), (1, .invokevirtual 492), (4, .ifCond .eq 19), (7, .aload_n 0), (8, .getfield 9), (11, .iload_n 1), (12, .iload_n 2), (13, .aload_n 0), (14, .invokevirtual 505), (17, .invokestatic 637), (20, .goto 16), (23, .aload_n 0), (24, .getfield 9), (27, .iload_n 1), (28, .iload_n 2), (29, .aload_n 0), (30, .invokevirtual 505), (33, .invokestatic 640), (36, .ireturn)]
theorem co_J0_indexOf_III : ∀ q ∈ cd_J0_indexOf_III, qw_dec (qw_yb my_J0_indexOf_III) q.1 q.2 := fun q h => qw_okb_dec (List.all_eq_true.mp (show cd_J0_indexOf_III.all (qw_okb prog_18_method_80_code) = true by decide +kernel) q h)
def my_J0_isLatin1 : qw_Y := (({ cls := "java/lang/String", name := "isLatin1", desc := "()Z" } : Jvm.MethodName), prog_18_method_154_code, 1, (Option.some Jvm.ClassFile.FieldType.boolean), 0, 0, 0)
def cd_J0_isLatin1 : List (Nat × Instr) := [(0, .getstatic 38), (3, .ifCond .eq 14), (6, .aload_n 0), (7, .getfield 15), (10, .ifCond .ne 7), (13, .iconst 1), (14, .goto 4), (17, .iconst 0), (18, .ireturn)]
theorem co_J0_isLatin1 : ∀ q ∈ cd_J0_isLatin1, qw_dec (qw_yb my_J0_isLatin1) q.1 q.2 := fun q h => qw_okb_dec (List.all_eq_true.mp (show cd_J0_isLatin1.all (qw_okb prog_18_method_154_code) = true by decide +kernel) q h)
def my_J0_length : qw_Y := (({ cls := "java/lang/String", name := "length", desc := "()I" } : Jvm.MethodName), prog_18_method_54_code, 1, (Option.some Jvm.ClassFile.FieldType.int), 0, 1, 20)
def cd_J0_length : List (Nat × Instr) := [(0, .aload_n 0), (1, .getfield 9), (4, .arraylength), (5, .aload_n 0), (6, .invokevirtual 335), (9, .ishr), (10, .ireturn)]
theorem co_J0_length : ∀ q ∈ cd_J0_length, qw_dec (qw_yb my_J0_length) q.1 q.2 := fun q h => qw_okb_dec (List.all_eq_true.mp (show cd_J0_length.all (qw_okb prog_18_method_54_code) = true by decide +kernel) q h)
def my_J1_canEncode : qw_Y := (({ cls := "java/lang/StringLatin1", name := "canEncode", desc := "(I)Z" } : Jvm.MethodName), prog_19_method_4_code, 1, (Option.some Jvm.ClassFile.FieldType.boolean), 1, 0, 0)
def cd_J1_canEncode : List (Nat × Instr) := [(0, .iload_n 0), (1, .ifCond .lt 14), (4, .iload_n 0), (5, .sipush 255), (8, .if_icmp .gt 7), (11, .iconst 1), (12, .goto 4), (15, .iconst 0), (16, .ireturn)]
theorem co_J1_canEncode : ∀ q ∈ cd_J1_canEncode, qw_dec (qw_yb my_J1_canEncode) q.1 q.2 := fun q h => qw_okb_dec (List.all_eq_true.mp (show cd_J1_canEncode.all (qw_okb prog_19_method_4_code) = true by decide +kernel) q h)
def my_J1_indexOf : qw_Y := (({ cls := "java/lang/StringLatin1", name := "indexOf", desc := "([BIII)I" } : Jvm.MethodName), prog_19_method_22_code, 4, (Option.some Jvm.ClassFile.FieldType.int), 4, 1, 25)
def cd_J1_indexOf : List (Nat × Instr) := [(0, .iload_n 1), (1, .invokestatic 88), (4, .ifCond .ne 5), (7, .iconst (-1)), (8, .ireturn), (9, .iload_n 2), (10, .iconst 0), (11, .invokestatic 92), (14, .istore_n 2), (15, .iload_n 3), (16, .aload_n 0), (17, .arraylength), (18, .invokestatic 38), (21, .istore_n 3), (22, .iload_n 2), (23, .iload_n 3), (24, .if_icmp .lt 5), (27, .iconst (-1)), (28, .ireturn), (29, .aload_n 0), (30, .iload_n 1), (31, .iload_n 2), (32, .iload_n 3), (33, .invokestatic 95), (36, .ireturn)]
theorem co_J1_indexOf : ∀ q ∈ cd_J1_indexOf, qw_dec (qw_yb my_J1_indexOf) q.1 q.2 := fun q h => qw_okb_dec (List.all_eq_true.mp (show cd_J1_indexOf.all (qw_okb prog_19_method_22_code) = true by decide +kernel) q h)
def my_J1_indexOfChar : qw_Y := (({ cls := "java/lang/StringLatin1", name := "indexOfChar", desc := "([BIII)I" } : Jvm.MethodName), prog_19_method_23_code, 6, (Option.some Jvm.ClassFile.FieldType.int), 4, 0, 0)
def cd_J1_indexOfChar : List (Nat × Instr) := [(0, .iload_n 1), (1, .i2b), (2, .istore 4), (4, .iload_n 2), (5, .istore 5), (7, .iload 5), (9, .iload_n 3), (10, .if_icmp .ge 21), (13, .aload_n 0), (14, .iload 5), (16, .baload), (17, .iload 4), (19, .if_icmp .ne 6), (22, .iload 5), (24, .ireturn), (25, .iinc 5 1), (28, .goto (-21)), (31, .iconst (-1)), (32, .ireturn)]
theorem co_J1_indexOfChar : ∀ q ∈ cd_J1_indexOfChar, qw_dec (qw_yb my_J1_indexOfChar) q.1 q.2 := fun q h => qw_okb_dec (List.all_eq_true.mp (show cd_J1_indexOfChar.all (qw_okb prog_19_method_23_code) = true by decide +kernel) q h)
def my_J6_bitCount : qw_Y := (({ cls := "java/lang/Integer", name := "bitCount", desc := "(I)I" } : Jvm.MethodName), prog_16_method_49_code, 1, (Option.some Jvm.ClassFile.FieldType.int), 1, 0, 0)
def cd_J6_bitCount : List (Nat × Instr) := [(0, .iload_n 0), (1, .iload_n 0), (2, .iconst 1), (3, .iushr), (4, .ldc_w 265), (7, .iand), (8, .isub), (9, .istore_n 0), (10, .iload_n 0), (11, .ldc_w 266), (14, .iand), (15, .iload_n 0), (16, .iconst 2), (17, .iushr), (18, .ldc_w 266), (21, .iand), (22, .iadd), (23, .istore_n 0), (24, .iload_n 0), (25, .iload_n 0), (26, .iconst 4), (27, .iushr), (28, .iadd), (29, .ldc_w 267), (32, .iand), (33, .istore_n 0), (34, .iload_n 0), (35, .iload_n 0), (36, .bipush 8), (38, .iushr), (39, .iadd), (40, .istore_n 0), (41, .iload_n 0), (42, .iload_n 0), (43, .bipush 16), (45, .iushr), (46, .iadd), (47, .istore_n 0), (48, .iload_n 0), (49, .bipush 63), (51, .iand), (52, .ireturn)]
theorem co_J6_bitCount : ∀ q ∈ cd_J6_bitCount, qw_dec (qw_yb my_J6_bitCount) q.1 q.2 := fun q h => qw_okb_dec (List.all_eq_true.mp (show cd_J6_bitCount.all (qw_okb prog_16_method_49_code) = true by decide +kernel) q h)
def my_J9_max : qw_Y := (({ cls := "java/lang/Math", name := "max", desc := "(II)I" } : Jvm.MethodName), prog_17_method_65_code, 2, (Option.some Jvm.ClassFile.FieldType.int), 2, 0, 0)
def cd_J9_max : List (Nat × Instr) := [(0, .iload_n 0), (1, .iload_n 1), (2, .if_icmp .lt 7), (5, .iload_n 0), (6, .goto 4), (9, .iload_n 1), (10, .ireturn)]
theorem co_J9_max : ∀ q ∈ cd_J9_max, qw_dec (qw_yb my_J9_max) q.1 q.2 := fun q h => qw_okb_dec (List.all_eq_true.mp (show cd_J9_max.all (qw_okb prog_17_method_65_code) = true by decide +kernel) q h)
def my_J9_min : qw_Y := (({ cls := "java/lang/Math", name := "min", desc := "(II)I" } : Jvm.MethodName), prog_17_method_69_code, 2, (Option.some Jvm.ClassFile.FieldType.int), 2, 0, 0)
def cd_J9_min : List (Nat × Instr) := [(0, .iload_n 0), (1, .iload_n 1), (2, .if_icmp .gt 7), (5, .iload_n 0), (6, .goto 4), (9, .iload_n 1), (10, .ireturn)]
theorem co_J9_min : ∀ q ∈ cd_J9_min, qw_dec (qw_yb my_J9_min) q.1 q.2 := fun q h => qw_okb_dec (List.all_eq_true.mp (show cd_J9_min.all (qw_okb prog_17_method_69_code) = true by decide +kernel) q h)
def my_X0_init : qw_Y := (({ cls := "ShadowTheatre$Chance", name := "<init>", desc := "(LShadowTheatre$Show;)V" } : Jvm.MethodName), prog_2_method_1_code, 2, (Option.none : Option Jvm.ClassFile.FieldType), 1, 1, 20)
def my_X0_draw : qw_Y := (({ cls := "ShadowTheatre$Chance", name := "draw", desc := "(II)V" } : Jvm.MethodName), prog_2_method_8_code, 7, (Option.none : Option Jvm.ClassFile.FieldType), 2, 1, 22)
def cd_X0_draw : List (Nat × Instr) := [(0, .aload_n 0), (1, .getfield 12), (4, .invokevirtual 116), (7, .aload_n 0), (8, .getfield 22), (11, .getfield 55), (14, .getfield 119), (17, .istore_n 3), (18, .iload_n 3), (19, .ifCond .gt 4), (22, .return_), (23, .iload_n 1), (24, .istore 4), (26, .iconst 0), (27, .istore 5), (29, .iload 5), (31, .iload_n 2), (32, .if_icmp .ge 48), (35, .iload 4), (37, .invokestatic 123), (40, .istore 4), (42, .iload 4), (44, .bipush 16), (46, .iushr), (47, .iload_n 3), (48, .irem), (49, .istore 6), (51, .iload 4), (53, .invokestatic 123), (56, .istore 4), (58, .aload_n 0), (59, .getfield 12), (62, .iload 6), (64, .iload 4), (66, .bipush 16), (68, .iushr), (69, .iconst 4), (70, .irem), (71, .invokevirtual 126), (74, .iinc 5 1), (77, .goto (-48)), (80, .return_)]
theorem co_X0_draw : ∀ q ∈ cd_X0_draw, qw_dec (qw_yb my_X0_draw) q.1 q.2 := fun q h => qw_okb_dec (List.all_eq_true.mp (show cd_X0_draw.all (qw_okb prog_2_method_8_code) = true by decide +kernel) q h)
def my_X0_looseSteps : qw_Y := (({ cls := "ShadowTheatre$Chance", name := "looseSteps", desc := "(I)I" } : Jvm.MethodName), prog_2_method_3_code, 4, (Option.some Jvm.ClassFile.FieldType.int), 1, 1, 21)
def cd_X0_looseSteps : List (Nat × Instr) := [(0, .iconst 0), (1, .istore_n 2), (2, .iconst 0), (3, .istore_n 3), (4, .iload_n 3), (5, .iload_n 1), (6, .if_icmp .gt 45), (9, .iload_n 3), (10, .bipush 10), (12, .if_icmp .ge 39), (15, .aload_n 0), (16, .getfield 22), (19, .getfield 55), (22, .aload_n 0), (23, .getfield 22), (26, .getfield 61), (29, .iload_n 3), (30, .invokevirtual 64), (33, .invokevirtual 67), (36, .ifCond .eq 9), (39, .iload_n 2), (40, .iconst 1), (41, .iload_n 3), (42, .ishl), (43, .ior), (44, .istore_n 2), (45, .iinc 3 1), (48, .goto (-44)), (51, .iload_n 2), (52, .ireturn)]
theorem co_X0_looseSteps : ∀ q ∈ cd_X0_looseSteps, qw_dec (qw_yb my_X0_looseSteps) q.1 q.2 := fun q h => qw_okb_dec (List.all_eq_true.mp (show cd_X0_looseSteps.all (qw_okb prog_2_method_3_code) = true by decide +kernel) q h)
def my_X0_lowerTerms : qw_Y := (({ cls := "ShadowTheatre$Chance", name := "lowerTerms", desc := "()V" } : Jvm.MethodName), prog_2_method_6_code, 2, (Option.none : Option Jvm.ClassFile.FieldType), 0, 0, 0)
def cd_X0_lowerTerms : List (Nat × Instr) := [(0, .iconst 0), (1, .istore_n 1), (2, .iload_n 1), (3, .bipush 64), (5, .if_icmp .ge 59), (8, .aload_n 0), (9, .getfield 36), (12, .ldc2_w 97), (15, .lrem), (16, .lconst 0), (17, .lcmp), (18, .ifCond .ne 46), (21, .aload_n 0), (22, .getfield 18), (25, .ldc2_w 97), (28, .lrem), (29, .lconst 0), (30, .lcmp), (31, .ifCond .ne 33), (34, .aload_n 0), (35, .dup), (36, .getfield 36), (39, .ldc2_w 97), (42, .ldiv), (43, .putfield 36), (46, .aload_n 0), (47, .dup), (48, .getfield 18), (51, .ldc2_w 97), (54, .ldiv), (55, .putfield 18), (58, .iinc 1 1), (61, .goto (-59)), (64, .return_)]
theorem co_X0_lowerTerms : ∀ q ∈ cd_X0_lowerTerms, qw_dec (qw_yb my_X0_lowerTerms) q.1 q.2 := fun q h => qw_okb_dec (List.all_eq_true.mp (show cd_X0_lowerTerms.all (qw_okb prog_2_method_6_code) = true by decide +kernel) q h)
def my_X0_next : qw_Y := (({ cls := "ShadowTheatre$Chance", name := "next", desc := "(I)I" } : Jvm.MethodName), prog_2_method_9_code, 1, (Option.some Jvm.ClassFile.FieldType.int), 1, 0, 0)
def cd_X0_next : List (Nat × Instr) := [(0, .ldc 129), (2, .iload_n 0), (3, .imul), (4, .sipush 12345), (7, .iadd), (8, .ireturn)]
theorem co_X0_next : ∀ q ∈ cd_X0_next, qw_dec (qw_yb my_X0_next) q.1 q.2 := fun q h => qw_okb_dec (List.all_eq_true.mp (show cd_X0_next.all (qw_okb prog_2_method_9_code) = true by decide +kernel) q h)
def my_X0_playOut : qw_Y := (({ cls := "ShadowTheatre$Chance", name := "playOut", desc := "(III)I" } : Jvm.MethodName), prog_2_method_7_code, 5, (Option.some Jvm.ClassFile.FieldType.int), 3, 5, 106)
def cd_X0_playOut : List (Nat × Instr) := [(0, .aload_n 0), (1, .iload_n 1), (2, .iload_n 2), (3, .invokevirtual 99), (6, .aload_n 0), (7, .getfield 22), (10, .aload_n 0), (11, .getfield 12), (14, .invokevirtual 102), (17, .istore 4), (19, .iload_n 3), (20, .ifCond .ne 11), (23, .iload 4), (25, .invokestatic 39), (28, .goto 16), (31, .aload_n 0), (32, .getfield 22), (35, .getfield 80), (38, .getfield 106), (41, .invokevirtual 110), (44, .ireturn)]
theorem co_X0_playOut : ∀ q ∈ cd_X0_playOut, qw_dec (qw_yb my_X0_playOut) q.1 q.2 := fun q h => qw_okb_dec (List.all_eq_true.mp (show cd_X0_playOut.all (qw_okb prog_2_method_7_code) = true by decide +kernel) q h)
def my_X0_power : qw_Y := (({ cls := "ShadowTheatre$Chance", name := "power", desc := "(II)J" } : Jvm.MethodName), prog_2_method_5_code, 5, (Option.some Jvm.ClassFile.FieldType.long), 2, 0, 0)
def cd_X0_power : List (Nat × Instr) := [(0, .lconst 1), (1, .lstore_n 2), (2, .iconst 0), (3, .istore 4), (5, .iload 4), (7, .iload_n 1), (8, .if_icmp .ge 14), (11, .lload_n 2), (12, .iload_n 0), (13, .i2l), (14, .lmul), (15, .lstore_n 2), (16, .iinc 4 1), (19, .goto (-14)), (22, .lload_n 2), (23, .lreturn)]
theorem co_X0_power : ∀ q ∈ cd_X0_power, qw_dec (qw_yb my_X0_power) q.1 q.2 := fun q h => qw_okb_dec (List.all_eq_true.mp (show cd_X0_power.all (qw_okb prog_2_method_5_code) = true by decide +kernel) q h)
def my_X0_reckon : qw_Y := (({ cls := "ShadowTheatre$Chance", name := "reckon", desc := "(III)V" } : Jvm.MethodName), prog_2_method_2_code, 6, (Option.none : Option Jvm.ClassFile.FieldType), 3, 5, 109)
def cd_X0_reckon : List (Nat × Instr) := [(0, .aload_n 0), (1, .iload_n 2), (2, .iload_n 3), (3, .invokestatic 26), (6, .invokevirtual 32), (9, .istore 4), (11, .aload_n 0), (12, .lconst 0), (13, .putfield 36), (16, .aload_n 0), (17, .bipush 16), (19, .iload 4), (21, .invokestatic 39), (24, .invokestatic 44), (27, .putfield 18), (30, .iconst 0), (31, .istore 5), (33, .iload 5), (35, .iload 4), (37, .if_icmp .gt 46), (40, .iload 5), (42, .sipush 1024), (45, .if_icmp .ge 38), (48, .iload 5), (50, .iload 4), (52, .iconst (-1)), (53, .ixor), (54, .iand), (55, .ifCond .ne 22), (58, .aload_n 0), (59, .dup), (60, .getfield 36), (63, .aload_n 0), (64, .iload_n 1), (65, .iload 4), (67, .iload 5), (69, .iload_n 3), (70, .invokevirtual 48), (73, .ladd), (74, .putfield 36), (77, .iinc 5 1), (80, .goto (-47)), (83, .aload_n 0), (84, .invokevirtual 52), (87, .return_)]
theorem co_X0_reckon : ∀ q ∈ cd_X0_reckon, qw_dec (qw_yb my_X0_reckon) q.1 q.2 := fun q h => qw_okb_dec (List.all_eq_true.mp (show cd_X0_reckon.all (qw_okb prog_2_method_2_code) = true by decide +kernel) q h)
def my_X0_waysShown : qw_Y := (({ cls := "ShadowTheatre$Chance", name := "waysShown", desc := "(IIII)J" } : Jvm.MethodName), prog_2_method_4_code, 7, (Option.some Jvm.ClassFile.FieldType.long), 4, 4, 83)
def cd_X0_waysShown : List (Nat × Instr) := [(0, .iload_n 1), (1, .iload_n 3), (2, .invokestatic 39), (5, .invokestatic 44), (8, .bipush 16), (10, .iload_n 1), (11, .isub), (12, .iload_n 2), (13, .iload_n 3), (14, .iconst (-1)), (15, .ixor), (16, .iand), (17, .invokestatic 39), (20, .invokestatic 44), (23, .lmul), (24, .lstore 5), (26, .lload 5), (28, .lconst 0), (29, .lcmp), (30, .ifCond .ne 5), (33, .lconst 0), (34, .lreturn), (35, .aload_n 0), (36, .getfield 22), (39, .invokevirtual 73), (42, .aload_n 0), (43, .getfield 22), (46, .iload 4), (48, .iload_n 3), (49, .invokevirtual 76), (52, .aload_n 0), (53, .getfield 22), (56, .getfield 80), (59, .aload_n 0), (60, .getfield 22), (63, .iload 4), (65, .invokevirtual 84), (68, .iconst 0), (69, .invokevirtual 87), (72, .aload_n 0), (73, .getfield 22), (76, .invokevirtual 93), (79, .ifCond .eq 8), (82, .lload 5), (84, .goto 4), (87, .lconst 0), (88, .lreturn)]
theorem co_X0_waysShown : ∀ q ∈ cd_X0_waysShown, qw_dec (qw_yb my_X0_waysShown) q.1 q.2 := fun q h => qw_okb_dec (List.all_eq_true.mp (show cd_X0_waysShown.all (qw_okb prog_2_method_4_code) = true by decide +kernel) q h)
def my_X10_init : qw_Y := (({ cls := "ShadowTheatre$Witness", name := "<init>", desc := "(LShadowTheatre$Show;)V" } : Jvm.MethodName), prog_12_method_1_code, 2, (Option.none : Option Jvm.ClassFile.FieldType), 1, 2, 42)
def my_X10_add : qw_Y := (({ cls := "ShadowTheatre$Witness", name := "add", desc := "(III)I" } : Jvm.MethodName), prog_12_method_2_code, 4, (Option.some Jvm.ClassFile.FieldType.int), 3, 1, 21)
def cd_X10_add : List (Nat × Instr) := [(0, .aload_n 0), (1, .getfield 14), (4, .iload_n 1), (5, .bipush 32), (7, .imul), (8, .iload_n 2), (9, .iadd), (10, .bipush 8), (12, .imul), (13, .iload_n 3), (14, .iadd), (15, .invokevirtual 35), (18, .ireturn)]
theorem co_X10_add : ∀ q ∈ cd_X10_add, qw_dec (qw_yb my_X10_add) q.1 q.2 := fun q h => qw_okb_dec (List.all_eq_true.mp (show cd_X10_add.all (qw_okb prog_12_method_2_code) = true by decide +kernel) q h)
def my_X10_agrees : qw_Y := (({ cls := "ShadowTheatre$Witness", name := "agrees", desc := "(I)Z" } : Jvm.MethodName), prog_12_method_4_code, 4, (Option.some Jvm.ClassFile.FieldType.boolean), 1, 3, 69)
def cd_X10_agrees : List (Nat × Instr) := [(0, .aload_n 0), (1, .invokevirtual 46), (4, .istore_n 2), (5, .iconst 0), (6, .istore_n 3), (7, .iload_n 3), (8, .bipush 20), (10, .if_icmp .ge 86), (13, .iload_n 2), (14, .iload_n 3), (15, .ishr), (16, .ifCond .eq 80), (19, .iload_n 1), (20, .iload_n 3), (21, .ishr), (22, .iconst 1), (23, .iand), (24, .ifCond .ne 32), (27, .aload_n 0), (28, .getfield 34), (31, .aload_n 0), (32, .getfield 24), (35, .getfield 50), (38, .iload_n 3), (39, .invokevirtual 54), (42, .aload_n 0), (43, .getfield 24), (46, .getfield 50), (49, .iload_n 3), (50, .invokevirtual 59), (53, .invokevirtual 62), (56, .iload_n 2), (57, .iload_n 3), (58, .ishr), (59, .iconst 1), (60, .iand), (61, .ifCond .eq 29), (64, .aload_n 0), (65, .getfield 34), (68, .aload_n 0), (69, .getfield 24), (72, .iload_n 3), (73, .invokevirtual 68), (76, .iconst 0), (77, .invokevirtual 72), (80, .aload_n 0), (81, .iload_n 3), (82, .invokevirtual 76), (85, .ifCond .ne 5), (88, .iconst 0), (89, .ireturn), (90, .iinc 3 1), (93, .goto (-86)), (96, .iconst 1), (97, .ireturn)]
theorem co_X10_agrees : ∀ q ∈ cd_X10_agrees, qw_dec (qw_yb my_X10_agrees) q.1 q.2 := fun q h => qw_okb_dec (List.all_eq_true.mp (show cd_X10_agrees.all (qw_okb prog_12_method_4_code) = true by decide +kernel) q h)
def my_X10_agreesIn : qw_Y := (({ cls := "ShadowTheatre$Witness", name := "agreesIn", desc := "(I)Z" } : Jvm.MethodName), prog_12_method_5_code, 5, (Option.some Jvm.ClassFile.FieldType.boolean), 1, 1, 21)
def cd_X10_agreesIn : List (Nat × Instr) := [(0, .iconst 0), (1, .istore_n 2), (2, .iload_n 2), (3, .aload_n 0), (4, .getfield 14), (7, .getfield 39), (10, .if_icmp .ge 65), (13, .aload_n 0), (14, .getfield 14), (17, .iload_n 2), (18, .invokevirtual 43), (21, .istore_n 3), (22, .iload_n 3), (23, .sipush 256), (26, .idiv), (27, .iload_n 1), (28, .if_icmp .ne 7), (31, .iconst 1), (32, .goto 4), (35, .iconst 0), (36, .istore 4), (38, .iload 4), (40, .ifCond .eq 29), (43, .aload_n 0), (44, .getfield 34), (47, .getfield 79), (50, .iload_n 3), (51, .bipush 8), (53, .idiv), (54, .bipush 32), (56, .irem), (57, .invokevirtual 83), (60, .iload_n 3), (61, .bipush 8), (63, .irem), (64, .if_icmp .eq 5), (67, .iconst 0), (68, .ireturn), (69, .iinc 2 1), (72, .goto (-70)), (75, .iconst 1), (76, .ireturn)]
theorem co_X10_agreesIn : ∀ q ∈ cd_X10_agreesIn, qw_dec (qw_yb my_X10_agreesIn) q.1 q.2 := fun q h => qw_okb_dec (List.all_eq_true.mp (show cd_X10_agreesIn.all (qw_okb prog_12_method_5_code) = true by decide +kernel) q h)
def my_X10_cellToAsk : qw_Y := (({ cls := "ShadowTheatre$Witness", name := "cellToAsk", desc := "(II)I" } : Jvm.MethodName), prog_12_method_9_code, 8, (Option.some Jvm.ClassFile.FieldType.int), 2, 4, 93)
def cd_X10_cellToAsk : List (Nat × Instr) := [(0, .aload_n 0), (1, .iload_n 1), (2, .iload_n 2), (3, .invokevirtual 107), (6, .iconst (-1)), (7, .istore_n 3), (8, .bipush 9), (10, .istore 4), (12, .iconst 0), (13, .istore 5), (15, .iload 5), (17, .bipush 32), (19, .if_icmp .ge 62), (22, .iconst 0), (23, .istore 6), (25, .iconst 0), (26, .istore 7), (28, .iload 7), (30, .bipush 8), (32, .if_icmp .ge 29), (35, .iload 6), (37, .aload_n 0), (38, .getfield 20), (41, .iload 5), (43, .bipush 8), (45, .imul), (46, .iload 7), (48, .iadd), (49, .iaload), (50, .invokestatic 110), (53, .istore 6), (55, .iinc 7 1), (58, .goto (-30)), (61, .iload 6), (63, .iload 4), (65, .if_icmp .ge 10), (68, .iload 6), (70, .istore 4), (72, .iload 5), (74, .istore_n 3), (75, .iinc 5 1), (78, .goto (-63)), (81, .iload_n 3), (82, .ireturn)]
theorem co_X10_cellToAsk : ∀ q ∈ cd_X10_cellToAsk, qw_dec (qw_yb my_X10_cellToAsk) q.1 q.2 := fun q h => qw_okb_dec (List.all_eq_true.mp (show cd_X10_cellToAsk.all (qw_okb prog_12_method_9_code) = true by decide +kernel) q h)
def my_X10_colours : qw_Y := (({ cls := "ShadowTheatre$Witness", name := "colours", desc := "(I)I" } : Jvm.MethodName), prog_12_method_7_code, 4, (Option.some Jvm.ClassFile.FieldType.int), 1, 4, 92)
def cd_X10_colours : List (Nat × Instr) := [(0, .iconst 0), (1, .istore_n 2), (2, .iconst 0), (3, .istore_n 3), (4, .iload_n 3), (5, .iconst 4), (6, .if_icmp .ge 39), (9, .aload_n 0), (10, .getfield 24), (13, .invokevirtual 91), (16, .aload_n 0), (17, .getfield 34), (20, .iload_n 1), (21, .iload_n 3), (22, .invokevirtual 97), (25, .aload_n 0), (26, .iconst 0), (27, .invokevirtual 94), (30, .ifCond .eq 9), (33, .iload_n 2), (34, .iconst 1), (35, .iload_n 3), (36, .ishl), (37, .ior), (38, .istore_n 2), (39, .iinc 3 1), (42, .goto (-38)), (45, .iload_n 2), (46, .ireturn)]
theorem co_X10_colours : ∀ q ∈ cd_X10_colours, qw_dec (qw_yb my_X10_colours) q.1 q.2 := fun q h => qw_okb_dec (List.all_eq_true.mp (show cd_X10_colours.all (qw_okb prog_12_method_7_code) = true by decide +kernel) q h)
def my_X10_depths : qw_Y := (({ cls := "ShadowTheatre$Witness", name := "depths", desc := "(I)I" } : Jvm.MethodName), prog_12_method_8_code, 4, (Option.some Jvm.ClassFile.FieldType.int), 1, 4, 92)
def cd_X10_depths : List (Nat × Instr) := [(0, .iconst 0), (1, .istore_n 2), (2, .iconst 1), (3, .istore_n 3), (4, .iload_n 3), (5, .bipush 8), (7, .if_icmp .gt 47), (10, .aload_n 0), (11, .getfield 24), (14, .invokevirtual 91), (17, .aload_n 0), (18, .getfield 34), (21, .iload_n 1), (22, .iload_n 3), (23, .aload_n 0), (24, .getfield 34), (27, .iload_n 1), (28, .invokevirtual 100), (31, .invokevirtual 103), (34, .aload_n 0), (35, .iconst 0), (36, .invokevirtual 94), (39, .ifCond .eq 9), (42, .iload_n 2), (43, .iconst 1), (44, .iload_n 3), (45, .ishl), (46, .ior), (47, .istore_n 2), (48, .iinc 3 1), (51, .goto (-47)), (54, .iload_n 2), (55, .ireturn)]
theorem co_X10_depths : ∀ q ∈ cd_X10_depths, qw_dec (qw_yb my_X10_depths) q.1 q.2 := fun q h => qw_okb_dec (List.all_eq_true.mp (show cd_X10_depths.all (qw_okb prog_12_method_8_code) = true by decide +kernel) q h)
def my_X10_neverSteps : qw_Y := (({ cls := "ShadowTheatre$Witness", name := "neverSteps", desc := "()I" } : Jvm.MethodName), prog_12_method_6_code, 4, (Option.some Jvm.ClassFile.FieldType.int), 0, 4, 92)
def cd_X10_neverSteps : List (Nat × Instr) := [(0, .aload_n 0), (1, .getfield 24), (4, .getfield 50), (7, .invokevirtual 88), (10, .istore_n 1), (11, .iconst 0), (12, .istore_n 2), (13, .iconst 0), (14, .istore_n 3), (15, .iload_n 3), (16, .bipush 20), (18, .if_icmp .ge 40), (21, .aload_n 0), (22, .getfield 24), (25, .invokevirtual 91), (28, .iload_n 1), (29, .iload_n 3), (30, .ishr), (31, .iconst 1), (32, .iand), (33, .ifCond .eq 19), (36, .aload_n 0), (37, .iconst 1), (38, .iload_n 3), (39, .ishl), (40, .invokevirtual 94), (43, .ifCond .eq 9), (46, .iload_n 2), (47, .iconst 1), (48, .iload_n 3), (49, .ishl), (50, .ior), (51, .istore_n 2), (52, .iinc 3 1), (55, .goto (-40)), (58, .iload_n 2), (59, .ireturn)]
theorem co_X10_neverSteps : ∀ q ∈ cd_X10_neverSteps, qw_dec (qw_yb my_X10_neverSteps) q.1 q.2 := fun q h => qw_okb_dec (List.all_eq_true.mp (show cd_X10_neverSteps.all (qw_okb prog_12_method_6_code) = true by decide +kernel) q h)
def my_X10_tallyLights : qw_Y := (({ cls := "ShadowTheatre$Witness", name := "tallyLights", desc := "(II)V" } : Jvm.MethodName), prog_12_method_10_code, 5, (Option.none : Option Jvm.ClassFile.FieldType), 2, 3, 69)
def cd_X10_tallyLights : List (Nat × Instr) := [(0, .iconst 0), (1, .istore_n 3), (2, .iload_n 3), (3, .aload_n 0), (4, .getfield 20), (7, .arraylength), (8, .if_icmp .ge 16), (11, .aload_n 0), (12, .getfield 20), (15, .iload_n 3), (16, .iconst 0), (17, .iastore), (18, .iinc 3 1), (21, .goto (-19)), (24, .iconst 1), (25, .istore_n 3), (26, .iload_n 3), (27, .bipush 8), (29, .if_icmp .gt 117), (32, .iload_n 2), (33, .iload_n 3), (34, .ishr), (35, .iconst 1), (36, .iand), (37, .ifCond .ne 6), (40, .goto 100), (43, .aload_n 0), (44, .getfield 24), (47, .invokevirtual 91), (50, .aload_n 0), (51, .getfield 34), (54, .iload_n 1), (55, .iload_n 3), (56, .aload_n 0), (57, .getfield 34), (60, .iload_n 1), (61, .invokevirtual 100), (64, .invokevirtual 103), (67, .aload_n 0), (68, .getfield 24), (71, .bipush 19), (73, .iconst 0), (74, .invokevirtual 116), (77, .aload_n 0), (78, .getfield 34), (81, .aload_n 0), (82, .getfield 24), (85, .bipush 19), (87, .invokevirtual 68), (90, .iconst 0), (91, .invokevirtual 72), (94, .iconst 0), (95, .istore 4), (97, .iload 4), (99, .bipush 32), (101, .if_icmp .ge 39), (104, .aload_n 0), (105, .getfield 20), (108, .iload 4), (110, .bipush 8), (112, .imul), (113, .aload_n 0), (114, .getfield 34), (117, .getfield 79), (120, .iload 4), (122, .invokevirtual 83), (125, .bipush 7), (127, .iand), (128, .iadd), (129, .dup2), (130, .iaload), (131, .iconst 1), (132, .iadd), (133, .iastore), (134, .iinc 4 1), (137, .goto (-40)), (140, .iinc 3 1), (143, .goto (-117)), (146, .return_)]
theorem co_X10_tallyLights : ∀ q ∈ cd_X10_tallyLights, qw_dec (qw_yb my_X10_tallyLights) q.1 q.2 := fun q h => qw_okb_dec (List.all_eq_true.mp (show cd_X10_tallyLights.all (qw_okb prog_12_method_10_code) = true by decide +kernel) q h)
def my_X10_watchedSteps : qw_Y := (({ cls := "ShadowTheatre$Witness", name := "watchedSteps", desc := "()I" } : Jvm.MethodName), prog_12_method_3_code, 3, (Option.some Jvm.ClassFile.FieldType.int), 0, 1, 21)
def cd_X10_watchedSteps : List (Nat × Instr) := [(0, .iconst 0), (1, .istore_n 1), (2, .iconst 0), (3, .istore_n 2), (4, .iload_n 2), (5, .aload_n 0), (6, .getfield 14), (9, .getfield 39), (12, .if_icmp .ge 26), (15, .iload_n 1), (16, .iconst 1), (17, .aload_n 0), (18, .getfield 14), (21, .iload_n 2), (22, .invokevirtual 43), (25, .sipush 256), (28, .idiv), (29, .ishl), (30, .ior), (31, .istore_n 1), (32, .iinc 2 1), (35, .goto (-31)), (38, .iload_n 1), (39, .ireturn)]
theorem co_X10_watchedSteps : ∀ q ∈ cd_X10_watchedSteps, qw_dec (qw_yb my_X10_watchedSteps) q.1 q.2 := fun q h => qw_okb_dec (List.all_eq_true.mp (show cd_X10_watchedSteps.all (qw_okb prog_12_method_3_code) = true by decide +kernel) q h)
def my_X11_init : qw_Y := (({ cls := "ShadowTheatre", name := "<init>", desc := "()V" } : Jvm.MethodName), prog_1_method_1_code, 2, (Option.none : Option Jvm.ClassFile.FieldType), 0, 3, 67)
def my_X11_ask : qw_Y := (({ cls := "ShadowTheatre", name := "ask", desc := "(I)I" } : Jvm.MethodName), prog_1_method_28_code, 2, (Option.some Jvm.ClassFile.FieldType.int), 1, 5, 120)
def cd_X11_ask : List (Nat × Instr) := [(0, .aload_n 0), (1, .getfield 27), (4, .getfield 100), (7, .iload_n 1), (8, .invokevirtual 123), (11, .ifCond .eq 22), (14, .aload_n 0), (15, .getfield 43), (18, .iload_n 1), (19, .aload_n 0), (20, .getfield 43), (23, .iload_n 1), (24, .invokevirtual 228), (27, .invokevirtual 231), (30, .goto 5), (33, .bipush (-2)), (35, .ireturn)]
theorem co_X11_ask : ∀ q ∈ cd_X11_ask, qw_dec (qw_yb my_X11_ask) q.1 q.2 := fun q h => qw_okb_dec (List.all_eq_true.mp (show cd_X11_ask.all (qw_okb prog_1_method_28_code) = true by decide +kernel) q h)
def my_X11_at : qw_Y := (({ cls := "ShadowTheatre", name := "at", desc := "(III)I" } : Jvm.MethodName), prog_1_method_15_code, 4, (Option.some Jvm.ClassFile.FieldType.int), 3, 5, 111)
def cd_X11_at : List (Nat × Instr) := [(0, .iload_n 1), (1, .bipush 20), (3, .invokestatic 74), (6, .ifCond .eq 25), (9, .aload_n 0), (10, .getfield 27), (13, .getfield 100), (16, .iload_n 2), (17, .invokevirtual 123), (20, .ifCond .eq 11), (23, .iload_n 3), (24, .iconst 4), (25, .invokestatic 74), (28, .ifCond .ne 6), (31, .bipush (-2)), (33, .ireturn), (34, .aload_n 0), (35, .getfield 27), (38, .iload_n 1), (39, .iload_n 2), (40, .iload_n 3), (41, .invokevirtual 173), (44, .ireturn)]
theorem co_X11_at : ∀ q ∈ cd_X11_at, qw_dec (qw_yb my_X11_at) q.1 q.2 := fun q h => qw_okb_dec (List.all_eq_true.mp (show cd_X11_at.all (qw_okb prog_1_method_15_code) = true by decide +kernel) q h)
def my_X11_back : qw_Y := (({ cls := "ShadowTheatre", name := "back", desc := "()I" } : Jvm.MethodName), prog_1_method_11_code, 1, (Option.some Jvm.ClassFile.FieldType.int), 0, 1, 20)
def cd_X11_back : List (Nat × Instr) := [(0, .aload_n 0), (1, .getfield 27), (4, .getfield 143), (7, .getfield 89), (10, .ifCond .ne 8), (13, .bipush (-3)), (15, .goto 13), (18, .aload_n 0), (19, .getfield 27), (22, .getfield 143), (25, .invokevirtual 97), (28, .ireturn)]
theorem co_X11_back : ∀ q ∈ cd_X11_back, qw_dec (qw_yb my_X11_back) q.1 q.2 := fun q h => qw_okb_dec (List.all_eq_true.mp (show cd_X11_back.all (qw_okb prog_1_method_11_code) = true by decide +kernel) q h)
def my_X11_copy : qw_Y := (({ cls := "ShadowTheatre", name := "copy", desc := "(IIIII)I" } : Jvm.MethodName), prog_1_method_35_code, 8, (Option.some Jvm.ClassFile.FieldType.int), 5, 2, 60)
def cd_X11_copy : List (Nat × Instr) := [(0, .aload_n 0), (1, .iload_n 1), (2, .invokevirtual 146), (5, .astore 6), (7, .aload_n 0), (8, .iload_n 3), (9, .invokevirtual 146), (12, .astore 7), (14, .aload 6), (16, .ifnull 8), (19, .aload 7), (21, .ifnonnull 6), (24, .bipush (-2)), (26, .ireturn), (27, .aload 6), (29, .invokevirtual 150), (32, .ifCond .ne 11), (35, .aload 7), (37, .invokevirtual 150), (40, .ifCond .eq 9), (43, .aload_n 0), (44, .iconst 1), (45, .invokevirtual 153), (48, .ireturn), (49, .aload 6), (51, .getfield 262), (54, .aload 7), (56, .getfield 262), (59, .if_icmp .eq 9), (62, .aload_n 0), (63, .iconst 4), (64, .invokevirtual 153), (67, .ireturn), (68, .aload 6), (70, .iload_n 2), (71, .iload 5), (73, .invokevirtual 265), (76, .ifCond .eq 15), (79, .aload 7), (81, .iload 4), (83, .iload 5), (85, .invokevirtual 265), (88, .ifCond .ne 9), (91, .aload_n 0), (92, .iconst 2), (93, .invokevirtual 153), (96, .ireturn), (97, .aload 6), (99, .getfield 268), (102, .iload_n 2), (103, .aload 7), (105, .getfield 268), (108, .iload 4), (110, .iload 5), (112, .invokestatic 272), (115, .iconst 1), (116, .ireturn)]
theorem co_X11_copy : ∀ q ∈ cd_X11_copy, qw_dec (qw_yb my_X11_copy) q.1 q.2 := fun q h => qw_okb_dec (List.all_eq_true.mp (show cd_X11_copy.all (qw_okb prog_1_method_35_code) = true by decide +kernel) q h)
def my_X11_count : qw_Y := (({ cls := "ShadowTheatre", name := "count", desc := "(I)I" } : Jvm.MethodName), prog_1_method_37_code, 2, (Option.some Jvm.ClassFile.FieldType.int), 1, 2, 43)
def cd_X11_count : List (Nat × Instr) := [(0, .iload_n 1), (1, .tableswitch 141 0 8 #[51, 62, 76, 90, 98, 106, 114, 125, 136]), (52, .aload_n 0), (53, .getfield 27), (56, .getfield 100), (59, .getfield 283), (62, .ireturn), (63, .aload_n 0), (64, .getfield 27), (67, .getfield 109), (70, .invokevirtual 284), (73, .invokestatic 190), (76, .ireturn), (77, .aload_n 0), (78, .getfield 27), (81, .getfield 116), (84, .getfield 287), (87, .invokestatic 190), (90, .ireturn), (91, .aload_n 0), (92, .getfield 14), (95, .getfield 89), (98, .ireturn), (99, .aload_n 0), (100, .getfield 18), (103, .getfield 89), (106, .ireturn), (107, .aload_n 0), (108, .getfield 21), (111, .getfield 89), (114, .ireturn), (115, .aload_n 0), (116, .getfield 27), (119, .getfield 143), (122, .getfield 89), (125, .ireturn), (126, .aload_n 0), (127, .getfield 43), (130, .getfield 217), (133, .getfield 89), (136, .ireturn), (137, .aload_n 0), (138, .getfield 290), (141, .ireturn), (142, .bipush (-2)), (144, .ireturn)]
theorem co_X11_count : ∀ q ∈ cd_X11_count, qw_dec (qw_yb my_X11_count) q.1 q.2 := fun q h => qw_okb_dec (List.all_eq_true.mp (show cd_X11_count.all (qw_okb prog_1_method_37_code) = true by decide +kernel) q h)
def my_X11_covers : qw_Y := (({ cls := "ShadowTheatre", name := "covers", desc := "(II)I" } : Jvm.MethodName), prog_1_method_14_code, 3, (Option.some Jvm.ClassFile.FieldType.int), 2, 5, 111)
def cd_X11_covers : List (Nat × Instr) := [(0, .iload_n 1), (1, .bipush 20), (3, .invokestatic 74), (6, .ifCond .eq 24), (9, .iload_n 2), (10, .bipush 32), (12, .invokestatic 74), (15, .ifCond .eq 15), (18, .aload_n 0), (19, .getfield 27), (22, .iload_n 1), (23, .iload_n 2), (24, .invokevirtual 170), (27, .goto 5), (30, .bipush (-2)), (32, .ireturn)]
theorem co_X11_covers : ∀ q ∈ cd_X11_covers, qw_dec (qw_yb my_X11_covers) q.1 q.2 := fun q h => qw_okb_dec (List.all_eq_true.mp (show cd_X11_covers.all (qw_okb prog_1_method_14_code) = true by decide +kernel) q h)
def my_X11_cue : qw_Y := (({ cls := "ShadowTheatre", name := "cue", desc := "(II)I" } : Jvm.MethodName), prog_1_method_7_code, 3, (Option.some Jvm.ClassFile.FieldType.int), 2, 1, 21)
def cd_X11_cue : List (Nat × Instr) := [(0, .iload_n 1), (1, .bipush 20), (3, .invokestatic 74), (6, .ifCond .eq 11), (9, .iload_n 2), (10, .iconst 2), (11, .invokestatic 74), (14, .ifCond .ne 6), (17, .bipush (-2)), (19, .ireturn), (20, .iload_n 2), (21, .ifCond .ne 17), (24, .aload_n 0), (25, .getfield 27), (28, .getfield 109), (31, .iload_n 1), (32, .invokevirtual 131), (35, .goto 14), (38, .aload_n 0), (39, .getfield 27), (42, .getfield 109), (45, .iload_n 1), (46, .invokevirtual 134), (49, .ireturn)]
theorem co_X11_cue : ∀ q ∈ cd_X11_cue, qw_dec (qw_yb my_X11_cue) q.1 q.2 := fun q h => qw_okb_dec (List.all_eq_true.mp (show cd_X11_cue.all (qw_okb prog_1_method_7_code) = true by decide +kernel) q h)
def my_X11_darkest : qw_Y := (({ cls := "ShadowTheatre", name := "darkest", desc := "()I" } : Jvm.MethodName), prog_1_method_19_code, 1, (Option.some Jvm.ClassFile.FieldType.int), 0, 4, 92)
def cd_X11_darkest : List (Nat × Instr) := [(0, .aload_n 0), (1, .getfield 27), (4, .invokevirtual 198), (7, .ireturn)]
theorem co_X11_darkest : ∀ q ∈ cd_X11_darkest, qw_dec (qw_yb my_X11_darkest) q.1 q.2 := fun q h => qw_okb_dec (List.all_eq_true.mp (show cd_X11_darkest.all (qw_okb prog_1_method_19_code) = true by decide +kernel) q h)
def my_X11_digest : qw_Y := (({ cls := "ShadowTheatre", name := "digest", desc := "()J" } : Jvm.MethodName), prog_1_method_38_code, 4, (Option.some Jvm.ClassFile.FieldType.long), 0, 7, 159)
def cd_X11_digest : List (Nat × Instr) := [(0, .ldc2_w 293), (3, .lstore_n 1), (4, .iconst 0), (5, .istore_n 3), (6, .iload_n 3), (7, .bipush 8), (9, .if_icmp .ge 20), (12, .lload_n 1), (13, .aload_n 0), (14, .iload_n 3), (15, .invokevirtual 295), (18, .i2l), (19, .invokestatic 297), (22, .lstore_n 1), (23, .iinc 3 1), (26, .goto (-20)), (29, .iconst 0), (30, .istore_n 3), (31, .iload_n 3), (32, .iconst 3), (33, .if_icmp .ge 20), (36, .lload_n 1), (37, .aload_n 0), (38, .iload_n 3), (39, .invokevirtual 301), (42, .i2l), (43, .invokestatic 297), (46, .lstore_n 1), (47, .iinc 3 1), (50, .goto (-19)), (53, .iconst 0), (54, .istore_n 3), (55, .iload_n 3), (56, .bipush 20), (58, .if_icmp .ge 16), (61, .aload_n 0), (62, .lload_n 1), (63, .iload_n 3), (64, .invokevirtual 304), (67, .lstore_n 1), (68, .iinc 3 1), (71, .goto (-16)), (74, .iconst 0), (75, .istore_n 3), (76, .iload_n 3), (77, .bipush 32), (79, .if_icmp .ge 16), (82, .aload_n 0), (83, .lload_n 1), (84, .iload_n 3), (85, .invokevirtual 308), (88, .lstore_n 1), (89, .iinc 3 1), (92, .goto (-16)), (95, .iconst 0), (96, .istore_n 3), (97, .iload_n 3), (98, .aload_n 0), (99, .getfield 27), (102, .getfield 100), (105, .getfield 283), (108, .if_icmp .ge 16), (111, .aload_n 0), (112, .lload_n 1), (113, .iload_n 3), (114, .invokevirtual 311), (117, .lstore_n 1), (118, .iinc 3 1), (121, .goto (-24)), (124, .aload_n 0), (125, .lload_n 1), (126, .invokevirtual 314), (129, .lstore_n 1), (130, .aload_n 0), (131, .lload_n 1), (132, .iconst 0), (133, .invokevirtual 318), (136, .lstore_n 1), (137, .aload_n 0), (138, .lload_n 1), (139, .bipush 9), (141, .invokevirtual 318), (144, .lstore_n 1), (145, .aload_n 0), (146, .lload_n 1), (147, .bipush 19), (149, .invokevirtual 318), (152, .lstore_n 1), (153, .aload_n 0), (154, .lload_n 1), (155, .invokevirtual 321), (158, .lreturn)]
theorem co_X11_digest : ∀ q ∈ cd_X11_digest, qw_dec (qw_yb my_X11_digest) q.1 q.2 := fun q h => qw_okb_dec (List.all_eq_true.mp (show cd_X11_digest.all (qw_okb prog_1_method_38_code) = true by decide +kernel) q h)
def my_X11_fault : qw_Y := (({ cls := "ShadowTheatre", name := "fault", desc := "(I)I" } : Jvm.MethodName), prog_1_method_5_code, 2, (Option.some Jvm.ClassFile.FieldType.int), 1, 0, 0)
def cd_X11_fault : List (Nat × Instr) := [(0, .iload_n 1), (1, .tableswitch 60 0 2 #[27, 38, 49]), (28, .aload_n 0), (29, .getfield 27), (32, .getfield 100), (35, .getfield 104), (38, .ireturn), (39, .aload_n 0), (40, .getfield 27), (43, .getfield 109), (46, .getfield 113), (49, .ireturn), (50, .aload_n 0), (51, .getfield 27), (54, .getfield 116), (57, .getfield 120), (60, .ireturn), (61, .bipush (-2)), (63, .ireturn)]
theorem co_X11_fault : ∀ q ∈ cd_X11_fault, qw_dec (qw_yb my_X11_fault) q.1 q.2 := fun q h => qw_okb_dec (List.all_eq_true.mp (show cd_X11_fault.all (qw_okb prog_1_method_5_code) = true by decide +kernel) q h)
def my_X11_figure : qw_Y := (({ cls := "ShadowTheatre", name := "figure", desc := "(II)I" } : Jvm.MethodName), prog_1_method_6_code, 3, (Option.some Jvm.ClassFile.FieldType.int), 2, 2, 43)
def cd_X11_figure : List (Nat × Instr) := [(0, .aload_n 0), (1, .getfield 27), (4, .getfield 100), (7, .iload_n 1), (8, .invokevirtual 123), (11, .ifCond .eq 27), (14, .iload_n 2), (15, .bipush 10), (17, .invokestatic 74), (20, .ifCond .eq 18), (23, .aload_n 0), (24, .getfield 27), (27, .getfield 100), (30, .iload_n 1), (31, .iload_n 2), (32, .invokevirtual 127), (35, .goto 5), (38, .bipush (-2)), (40, .ireturn)]
theorem co_X11_figure : ∀ q ∈ cd_X11_figure, qw_dec (qw_yb my_X11_figure) q.1 q.2 := fun q h => qw_okb_dec (List.all_eq_true.mp (show cd_X11_figure.all (qw_okb prog_1_method_6_code) = true by decide +kernel) q h)
def my_X11_find : qw_Y := (({ cls := "ShadowTheatre", name := "find", desc := "(I)I" } : Jvm.MethodName), prog_1_method_50_code, 2, (Option.some Jvm.ClassFile.FieldType.int), 1, 0, 0)
def cd_X11_find : List (Nat × Instr) := [(0, .aload_n 0), (1, .iload_n 1), (2, .putfield 290), (5, .bipush (-10)), (7, .iload_n 1), (8, .isub), (9, .ireturn)]
theorem co_X11_find : ∀ q ∈ cd_X11_find, qw_dec (qw_yb my_X11_find) q.1 q.2 := fun q h => qw_okb_dec (List.all_eq_true.mp (show cd_X11_find.all (qw_okb prog_1_method_50_code) = true by decide +kernel) q h)
def my_X11_findingOf : qw_Y := (({ cls := "ShadowTheatre", name := "findingOf", desc := "(LShadowTheatre$Sheet;II)I" } : Jvm.MethodName), prog_1_method_51_code, 3, (Option.some Jvm.ClassFile.FieldType.int), 3, 1, 21)
def cd_X11_findingOf : List (Nat × Instr) := [(0, .aload_n 0), (1, .invokevirtual 150), (4, .ifCond .eq 5), (7, .iconst 1), (8, .ireturn), (9, .aload_n 0), (10, .getfield 262), (13, .iload_n 1), (14, .if_icmp .eq 5), (17, .iconst 3), (18, .ireturn), (19, .aload_n 0), (20, .iload_n 2), (21, .invokevirtual 357), (24, .ifCond .eq 7), (27, .iconst 0), (28, .goto 4), (31, .iconst 2), (32, .ireturn)]
theorem co_X11_findingOf : ∀ q ∈ cd_X11_findingOf, qw_dec (qw_yb my_X11_findingOf) q.1 q.2 := fun q h => qw_okb_dec (List.all_eq_true.mp (show cd_X11_findingOf.all (qw_okb prog_1_method_51_code) = true by decide +kernel) q h)
def my_X11_flicker : qw_Y := (({ cls := "ShadowTheatre", name := "flicker", desc := "(I)I" } : Jvm.MethodName), prog_1_method_10_code, 2, (Option.some Jvm.ClassFile.FieldType.int), 1, 1, 21)
def cd_X11_flicker : List (Nat × Instr) := [(0, .iload_n 1), (1, .bipush 20), (3, .invokestatic 74), (6, .ifCond .ne 6), (9, .bipush (-2)), (11, .ireturn), (12, .aload_n 0), (13, .getfield 27), (16, .getfield 143), (19, .invokevirtual 78), (22, .ifCond .eq 8), (25, .bipush (-4)), (27, .goto 14), (30, .aload_n 0), (31, .getfield 27), (34, .getfield 143), (37, .iload_n 1), (38, .invokevirtual 82), (41, .ireturn)]
theorem co_X11_flicker : ∀ q ∈ cd_X11_flicker, qw_dec (qw_yb my_X11_flicker) q.1 q.2 := fun q h => qw_okb_dec (List.all_eq_true.mp (show cd_X11_flicker.all (qw_okb prog_1_method_10_code) = true by decide +kernel) q h)
def my_X11_forget : qw_Y := (({ cls := "ShadowTheatre", name := "forget", desc := "()I" } : Jvm.MethodName), prog_1_method_25_code, 1, (Option.some Jvm.ClassFile.FieldType.int), 0, 1, 21)
def cd_X11_forget : List (Nat × Instr) := [(0, .aload_n 0), (1, .getfield 43), (4, .getfield 217), (7, .invokevirtual 93), (10, .ireturn)]
theorem co_X11_forget : ∀ q ∈ cd_X11_forget, qw_dec (qw_yb my_X11_forget) q.1 q.2 := fun q h => qw_okb_dec (List.all_eq_true.mp (show cd_X11_forget.all (qw_okb prog_1_method_25_code) = true by decide +kernel) q h)
def my_X11_get : qw_Y := (({ cls := "ShadowTheatre", name := "get", desc := "(III)I" } : Jvm.MethodName), prog_1_method_34_code, 6, (Option.some Jvm.ClassFile.FieldType.int), 3, 2, 43)
def cd_X11_get : List (Nat × Instr) := [(0, .aload_n 0), (1, .iload_n 1), (2, .invokevirtual 146), (5, .astore 4), (7, .aload 4), (9, .ifnull 11), (12, .iload_n 2), (13, .iconst 3), (14, .invokestatic 74), (17, .ifCond .ne 7), (20, .ldc_w 261), (23, .ireturn), (24, .aload 4), (26, .iload_n 2), (27, .iload_n 3), (28, .invokestatic 254), (31, .istore 5), (33, .iload 5), (35, .ifCond .eq 14), (38, .aload_n 0), (39, .iload 5), (41, .invokevirtual 153), (44, .pop), (45, .ldc_w 261), (48, .ireturn), (49, .aload 4), (51, .iload_n 3), (52, .invokevirtual 157), (55, .ireturn)]
theorem co_X11_get : ∀ q ∈ cd_X11_get, qw_dec (qw_yb my_X11_get) q.1 q.2 := fun q h => qw_okb_dec (List.all_eq_true.mp (show cd_X11_get.all (qw_okb prog_1_method_34_code) = true by decide +kernel) q h)
def my_X11_hang : qw_Y := (({ cls := "ShadowTheatre", name := "hang", desc := "(III)I" } : Jvm.MethodName), prog_1_method_20_code, 4, (Option.some Jvm.ClassFile.FieldType.int), 3, 5, 114)
def cd_X11_hang : List (Nat × Instr) := [(0, .aload_n 0), (1, .getfield 27), (4, .getfield 100), (7, .iload_n 1), (8, .invokevirtual 123), (11, .ifCond .eq 20), (14, .iload_n 2), (15, .bipush 20), (17, .invokestatic 74), (20, .ifCond .eq 11), (23, .iload_n 3), (24, .iconst 3), (25, .invokestatic 74), (28, .ifCond .ne 6), (31, .bipush (-2)), (33, .ireturn), (34, .aload_n 0), (35, .getfield 36), (38, .iload_n 1), (39, .iload_n 2), (40, .invokevirtual 201), (43, .aload_n 0), (44, .getfield 36), (47, .iload_n 3), (48, .invokevirtual 205), (51, .ireturn)]
theorem co_X11_hang : ∀ q ∈ cd_X11_hang, qw_dec (qw_yb my_X11_hang) q.1 q.2 := fun q h => qw_okb_dec (List.all_eq_true.mp (show cd_X11_hang.all (qw_okb prog_1_method_20_code) = true by decide +kernel) q h)
def my_X11_isBelow : qw_Y := (({ cls := "ShadowTheatre", name := "isBelow", desc := "(II)Z" } : Jvm.MethodName), prog_1_method_46_code, 2, (Option.some Jvm.ClassFile.FieldType.boolean), 2, 0, 0)
def cd_X11_isBelow : List (Nat × Instr) := [(0, .iload_n 0), (1, .ifCond .lt 12), (4, .iload_n 0), (5, .iload_n 1), (6, .if_icmp .ge 7), (9, .iconst 1), (10, .goto 4), (13, .iconst 0), (14, .ireturn)]
theorem co_X11_isBelow : ∀ q ∈ cd_X11_isBelow, qw_dec (qw_yb my_X11_isBelow) q.1 q.2 := fun q h => qw_okb_dec (List.all_eq_true.mp (show cd_X11_isBelow.all (qw_okb prog_1_method_46_code) = true by decide +kernel) q h)
def my_X11_lamp : qw_Y := (({ cls := "ShadowTheatre", name := "lamp", desc := "(I)I" } : Jvm.MethodName), prog_1_method_9_code, 3, (Option.some Jvm.ClassFile.FieldType.int), 1, 1, 21)
def cd_X11_lamp : List (Nat × Instr) := [(0, .iload_n 1), (1, .bipush 32), (3, .invokestatic 74), (6, .ifCond .ne 6), (9, .bipush (-2)), (11, .ireturn), (12, .aload_n 0), (13, .getfield 27), (16, .getfield 140), (19, .istore_n 2), (20, .aload_n 0), (21, .getfield 27), (24, .iload_n 1), (25, .putfield 140), (28, .iload_n 2), (29, .ireturn)]
theorem co_X11_lamp : ∀ q ∈ cd_X11_lamp, qw_dec (qw_yb my_X11_lamp) q.1 q.2 := fun q h => qw_okb_dec (List.all_eq_true.mp (show cd_X11_lamp.all (qw_okb prog_1_method_9_code) = true by decide +kernel) q h)
def my_X11_lay : qw_Y := (({ cls := "ShadowTheatre", name := "lay", desc := "(IIII)I" } : Jvm.MethodName), prog_1_method_33_code, 7, (Option.some Jvm.ClassFile.FieldType.int), 4, 2, 43)
def cd_X11_lay : List (Nat × Instr) := [(0, .aload_n 0), (1, .iload_n 1), (2, .invokevirtual 146), (5, .astore 5), (7, .aload 5), (9, .ifnull 11), (12, .iload_n 2), (13, .iconst 3), (14, .invokestatic 74), (17, .ifCond .ne 6), (20, .bipush (-2)), (22, .ireturn), (23, .aload 5), (25, .iload_n 2), (26, .iload_n 3), (27, .invokestatic 254), (30, .istore 6), (32, .iload 6), (34, .ifCond .eq 10), (37, .aload_n 0), (38, .iload 6), (40, .invokevirtual 153), (43, .ireturn), (44, .aload 5), (46, .iload_n 3), (47, .iload 4), (49, .invokevirtual 258), (52, .iconst 1), (53, .ireturn)]
theorem co_X11_lay : ∀ q ∈ cd_X11_lay, qw_dec (qw_yb my_X11_lay) q.1 q.2 := fun q h => qw_okb_dec (List.all_eq_true.mp (show cd_X11_lay.all (qw_okb prog_1_method_33_code) = true by decide +kernel) q h)
def my_X11_leave : qw_Y := (({ cls := "ShadowTheatre", name := "leave", desc := "(II)I" } : Jvm.MethodName), prog_1_method_23_code, 3, (Option.some Jvm.ClassFile.FieldType.int), 2, 6, 129)
def cd_X11_leave : List (Nat × Instr) := [(0, .iload_n 1), (1, .bipush 20), (3, .invokestatic 74), (6, .ifCond .eq 16), (9, .iload_n 2), (10, .iconst (-1)), (11, .if_icmp .eq 14), (14, .iload_n 2), (15, .iconst 2), (16, .invokestatic 74), (19, .ifCond .ne 6), (22, .bipush (-2)), (24, .ireturn), (25, .aload_n 0), (26, .getfield 36), (29, .iload_n 1), (30, .invokevirtual 214), (33, .aload_n 0), (34, .getfield 36), (37, .iload_n 2), (38, .iconst 1), (39, .iadd), (40, .invokevirtual 205), (43, .ireturn)]
theorem co_X11_leave : ∀ q ∈ cd_X11_leave, qw_dec (qw_yb my_X11_leave) q.1 q.2 := fun q h => qw_okb_dec (List.all_eq_true.mp (show cd_X11_leave.all (qw_okb prog_1_method_23_code) = true by decide +kernel) q h)
def my_X11_light : qw_Y := (({ cls := "ShadowTheatre", name := "light", desc := "(II)I" } : Jvm.MethodName), prog_1_method_13_code, 3, (Option.some Jvm.ClassFile.FieldType.int), 2, 4, 90)
def cd_X11_light : List (Nat × Instr) := [(0, .iload_n 1), (1, .bipush 20), (3, .invokestatic 74), (6, .ifCond .eq 12), (9, .iload_n 2), (10, .bipush 32), (12, .invokestatic 74), (15, .ifCond .ne 6), (18, .bipush (-2)), (20, .ireturn), (21, .aload_n 0), (22, .getfield 27), (25, .iload_n 1), (26, .invokevirtual 160), (29, .aload_n 0), (30, .getfield 27), (33, .getfield 61), (36, .getfield 163), (39, .iload_n 2), (40, .invokevirtual 167), (43, .ireturn)]
theorem co_X11_light : ∀ q ∈ cd_X11_light, qw_dec (qw_yb my_X11_light) q.1 q.2 := fun q h => qw_okb_dec (List.all_eq_true.mp (show cd_X11_light.all (qw_okb prog_1_method_13_code) = true by decide +kernel) q h)
def my_X11_lose : qw_Y := (({ cls := "ShadowTheatre", name := "lose", desc := "(I)I" } : Jvm.MethodName), prog_1_method_32_code, 3, (Option.some Jvm.ClassFile.FieldType.int), 1, 2, 42)
def cd_X11_lose : List (Nat × Instr) := [(0, .aload_n 0), (1, .iload_n 1), (2, .invokevirtual 146), (5, .astore_n 2), (6, .aload_n 2), (7, .ifnonnull 6), (10, .bipush (-2)), (12, .ireturn), (13, .aload_n 2), (14, .invokevirtual 150), (17, .ifCond .eq 11), (20, .aload_n 0), (21, .iconst 1), (22, .invokevirtual 153), (25, .goto 7), (28, .aload_n 2), (29, .invokevirtual 253), (32, .ireturn)]
theorem co_X11_lose : ∀ q ∈ cd_X11_lose, qw_dec (qw_yb my_X11_lose) q.1 q.2 := fun q h => qw_okb_dec (List.all_eq_true.mp (show cd_X11_lose.all (qw_okb prog_1_method_32_code) = true by decide +kernel) q h)
def my_X11_mix : qw_Y := (({ cls := "ShadowTheatre", name := "mix", desc := "(JJ)J" } : Jvm.MethodName), prog_1_method_39_code, 4, (Option.some Jvm.ClassFile.FieldType.long), 2, 0, 0)
def cd_X11_mix : List (Nat × Instr) := [(0, .ldc2_w 324), (3, .lload_n 0), (4, .lmul), (5, .lload_n 2), (6, .ladd), (7, .lreturn)]
theorem co_X11_mix : ∀ q ∈ cd_X11_mix, qw_dec (qw_yb my_X11_mix) q.1 q.2 := fun q h => qw_okb_dec (List.all_eq_true.mp (show cd_X11_mix.all (qw_okb prog_1_method_39_code) = true by decide +kernel) q h)
def my_X11_mixCell : qw_Y := (({ cls := "ShadowTheatre", name := "mixCell", desc := "(JI)J" } : Jvm.MethodName), prog_1_method_41_code, 6, (Option.some Jvm.ClassFile.FieldType.long), 2, 6, 133)
def cd_X11_mixCell : List (Nat × Instr) := [(0, .lload_n 1), (1, .aload_n 0), (2, .iload_n 3), (3, .invokevirtual 329), (6, .i2l), (7, .invokestatic 297), (10, .lstore 4), (12, .lload 4), (14, .aload_n 0), (15, .iconst 0), (16, .iload_n 3), (17, .invokevirtual 331), (20, .i2l), (21, .invokestatic 297), (24, .lstore 4), (26, .lload 4), (28, .aload_n 0), (29, .bipush 9), (31, .iload_n 3), (32, .invokevirtual 331), (35, .i2l), (36, .invokestatic 297), (39, .lstore 4), (41, .lload 4), (43, .aload_n 0), (44, .bipush 19), (46, .iload_n 3), (47, .invokevirtual 331), (50, .i2l), (51, .invokestatic 297), (54, .lstore 4), (56, .lload 4), (58, .aload_n 0), (59, .bipush 19), (61, .iload_n 3), (62, .invokevirtual 334), (65, .i2l), (66, .invokestatic 297), (69, .lreturn)]
theorem co_X11_mixCell : ∀ q ∈ cd_X11_mixCell, qw_dec (qw_yb my_X11_mixCell) q.1 q.2 := fun q h => qw_okb_dec (List.all_eq_true.mp (show cd_X11_mixCell.all (qw_okb prog_1_method_41_code) = true by decide +kernel) q h)
def my_X11_mixFigure : qw_Y := (({ cls := "ShadowTheatre", name := "mixFigure", desc := "(JI)J" } : Jvm.MethodName), prog_1_method_42_code, 7, (Option.some Jvm.ClassFile.FieldType.long), 2, 5, 120)
def cd_X11_mixFigure : List (Nat × Instr) := [(0, .lload_n 1), (1, .lstore 4), (3, .iconst 0), (4, .istore 6), (6, .iload 6), (8, .bipush 10), (10, .if_icmp .ge 24), (13, .lload 4), (15, .aload_n 0), (16, .iload_n 3), (17, .iload 6), (19, .invokevirtual 337), (22, .i2l), (23, .invokestatic 297), (26, .lstore 4), (28, .iinc 6 1), (31, .goto (-25)), (34, .iconst 0), (35, .istore 6), (37, .iload 6), (39, .iconst 4), (40, .if_icmp .ge 29), (43, .lload 4), (45, .aload_n 0), (46, .getfield 27), (49, .bipush 9), (51, .iload_n 3), (52, .iload 6), (54, .invokevirtual 173), (57, .i2l), (58, .invokestatic 297), (61, .lstore 4), (63, .iinc 6 1), (66, .goto (-29)), (69, .iconst 0), (70, .istore 6), (72, .iload 6), (74, .iconst 4), (75, .if_icmp .ge 29), (78, .lload 4), (80, .aload_n 0), (81, .getfield 27), (84, .bipush 19), (86, .iload_n 3), (87, .iload 6), (89, .invokevirtual 173), (92, .i2l), (93, .invokestatic 297), (96, .lstore 4), (98, .iinc 6 1), (101, .goto (-29)), (104, .aload_n 0), (105, .getfield 36), (108, .iload_n 3), (109, .bipush 9), (111, .invokevirtual 201), (114, .iconst 0), (115, .istore 6), (117, .iload 6), (119, .iconst 3), (120, .if_icmp .ge 26), (123, .lload 4), (125, .aload_n 0), (126, .getfield 36), (129, .iload 6), (131, .invokevirtual 205), (134, .i2l), (135, .invokestatic 297), (138, .lstore 4), (140, .iinc 6 1), (143, .goto (-26)), (146, .lload 4), (148, .aload_n 0), (149, .getfield 43), (152, .iload_n 3), (153, .invokevirtual 225), (156, .i2l), (157, .invokestatic 297), (160, .lstore 4), (162, .aload_n 0), (163, .getfield 43), (166, .iload_n 3), (167, .invokevirtual 228), (170, .istore 6), (172, .lload 4), (174, .iload 6), (176, .i2l), (177, .invokestatic 297), (180, .lstore 4), (182, .lload 4), (184, .aload_n 0), (185, .getfield 43), (188, .iload_n 3), (189, .iload 6), (191, .invokevirtual 231), (194, .i2l), (195, .invokestatic 297), (198, .lreturn)]
theorem co_X11_mixFigure : ∀ q ∈ cd_X11_mixFigure, qw_dec (qw_yb my_X11_mixFigure) q.1 q.2 := fun q h => qw_okb_dec (List.all_eq_true.mp (show cd_X11_mixFigure.all (qw_okb prog_1_method_42_code) = true by decide +kernel) q h)
def my_X11_mixRest : qw_Y := (({ cls := "ShadowTheatre", name := "mixRest", desc := "(J)J" } : Jvm.MethodName), prog_1_method_45_code, 5, (Option.some Jvm.ClassFile.FieldType.long), 1, 6, 135)
def cd_X11_mixRest : List (Nat × Instr) := [(0, .aload_n 0), (1, .getfield 36), (4, .invokevirtual 211), (7, .lload_n 1), (8, .aload_n 0), (9, .getfield 36), (12, .iconst 0), (13, .invokevirtual 205), (16, .i2l), (17, .invokestatic 297), (20, .lstore_n 3), (21, .lload_n 3), (22, .aload_n 0), (23, .getfield 36), (26, .iconst 1), (27, .invokevirtual 205), (30, .i2l), (31, .invokestatic 297), (34, .lstore_n 3), (35, .lload_n 3), (36, .aload_n 0), (37, .invokevirtual 349), (40, .i2l), (41, .invokestatic 297), (44, .lstore_n 3), (45, .aload_n 0), (46, .getfield 50), (49, .iconst 5), (50, .iconst 5), (51, .bipush 9), (53, .invokevirtual 236), (56, .lload_n 3), (57, .aload_n 0), (58, .getfield 50), (61, .getfield 240), (64, .invokestatic 297), (67, .lstore_n 3), (68, .lload_n 3), (69, .aload_n 0), (70, .getfield 50), (73, .getfield 244), (76, .invokestatic 297), (79, .lstore_n 3), (80, .lload_n 3), (81, .aload_n 0), (82, .getfield 50), (85, .bipush 7), (87, .bipush 15), (89, .iconst 0), (90, .invokevirtual 247), (93, .i2l), (94, .invokestatic 297), (97, .lstore_n 3), (98, .lload_n 3), (99, .aload_n 0), (100, .getfield 50), (103, .bipush 7), (105, .bipush 15), (107, .iconst 1), (108, .invokevirtual 247), (111, .i2l), (112, .invokestatic 297), (115, .lreturn)]
theorem co_X11_mixRest : ∀ q ∈ cd_X11_mixRest, qw_dec (qw_yb my_X11_mixRest) q.1 q.2 := fun q h => qw_okb_dec (List.all_eq_true.mp (show cd_X11_mixRest.all (qw_okb prog_1_method_45_code) = true by decide +kernel) q h)
def my_X11_mixShown : qw_Y := (({ cls := "ShadowTheatre", name := "mixShown", desc := "(J)J" } : Jvm.MethodName), prog_1_method_43_code, 6, (Option.some Jvm.ClassFile.FieldType.long), 1, 6, 128)
def cd_X11_mixShown : List (Nat × Instr) := [(0, .lload_n 1), (1, .aload_n 0), (2, .iconst 0), (3, .invokevirtual 340), (6, .i2l), (7, .invokestatic 297), (10, .lstore_n 3), (11, .lload_n 3), (12, .aload_n 0), (13, .iconst 1), (14, .invokevirtual 340), (17, .i2l), (18, .invokestatic 297), (21, .lstore_n 3), (22, .iconst 0), (23, .istore 5), (25, .iload 5), (27, .iconst 3), (28, .if_icmp .ge 21), (31, .lload_n 3), (32, .aload_n 0), (33, .iload 5), (35, .invokevirtual 343), (38, .i2l), (39, .invokestatic 297), (42, .lstore_n 3), (43, .iinc 5 1), (46, .goto (-21)), (49, .lload_n 3), (50, .aload_n 0), (51, .invokevirtual 346), (54, .i2l), (55, .invokestatic 297), (58, .lreturn)]
theorem co_X11_mixShown : ∀ q ∈ cd_X11_mixShown, qw_dec (qw_yb my_X11_mixShown) q.1 q.2 := fun q h => qw_okb_dec (List.all_eq_true.mp (show cd_X11_mixShown.all (qw_okb prog_1_method_43_code) = true by decide +kernel) q h)
def my_X11_mixStep : qw_Y := (({ cls := "ShadowTheatre", name := "mixStep", desc := "(JI)J" } : Jvm.MethodName), prog_1_method_40_code, 6, (Option.some Jvm.ClassFile.FieldType.long), 2, 5, 112)
def cd_X11_mixStep : List (Nat × Instr) := [(0, .lload_n 1), (1, .aload_n 0), (2, .getfield 27), (5, .getfield 109), (8, .iload_n 3), (9, .invokevirtual 131), (12, .i2l), (13, .invokestatic 297), (16, .lstore 4), (18, .lload 4), (20, .aload_n 0), (21, .getfield 27), (24, .getfield 109), (27, .iload_n 3), (28, .invokevirtual 134), (31, .i2l), (32, .invokestatic 297), (35, .lstore 4), (37, .lload 4), (39, .aload_n 0), (40, .iload_n 3), (41, .iconst 0), (42, .invokevirtual 326), (45, .i2l), (46, .invokestatic 297), (49, .lstore 4), (51, .lload 4), (53, .aload_n 0), (54, .iload_n 3), (55, .iconst 1), (56, .invokevirtual 326), (59, .i2l), (60, .invokestatic 297), (63, .lreturn)]
theorem co_X11_mixStep : ∀ q ∈ cd_X11_mixStep, qw_dec (qw_yb my_X11_mixStep) q.1 q.2 := fun q h => qw_okb_dec (List.all_eq_true.mp (show cd_X11_mixStep.all (qw_okb prog_1_method_40_code) = true by decide +kernel) q h)
def my_X11_mixStepPlans : qw_Y := (({ cls := "ShadowTheatre", name := "mixStepPlans", desc := "(JI)J" } : Jvm.MethodName), prog_1_method_44_code, 6, (Option.some Jvm.ClassFile.FieldType.long), 2, 6, 129)
def cd_X11_mixStepPlans : List (Nat × Instr) := [(0, .aload_n 0), (1, .getfield 36), (4, .iload_n 3), (5, .invokevirtual 208), (8, .lload_n 1), (9, .aload_n 0), (10, .getfield 36), (13, .iconst 0), (14, .invokevirtual 205), (17, .i2l), (18, .invokestatic 297), (21, .lstore 4), (23, .lload 4), (25, .aload_n 0), (26, .getfield 36), (29, .iconst 1), (30, .invokevirtual 205), (33, .i2l), (34, .invokestatic 297), (37, .lstore 4), (39, .aload_n 0), (40, .getfield 36), (43, .iload_n 3), (44, .invokevirtual 214), (47, .lload 4), (49, .aload_n 0), (50, .getfield 36), (53, .iconst 0), (54, .invokevirtual 205), (57, .i2l), (58, .invokestatic 297), (61, .lstore 4), (63, .lload 4), (65, .aload_n 0), (66, .getfield 36), (69, .iconst 1), (70, .invokevirtual 205), (73, .i2l), (74, .invokestatic 297), (77, .lreturn)]
theorem co_X11_mixStepPlans : ∀ q ∈ cd_X11_mixStepPlans, qw_dec (qw_yb my_X11_mixStepPlans) q.1 q.2 := fun q h => qw_okb_dec (List.all_eq_true.mp (show cd_X11_mixStepPlans.all (qw_okb prog_1_method_44_code) = true by decide +kernel) q h)
def my_X11_more : qw_Y := (({ cls := "ShadowTheatre", name := "more", desc := "(I)I" } : Jvm.MethodName), prog_1_method_22_code, 2, (Option.some Jvm.ClassFile.FieldType.int), 1, 6, 134)
def cd_X11_more : List (Nat × Instr) := [(0, .iload_n 1), (1, .iconst (-1)), (2, .if_icmp .eq 14), (5, .iload_n 1), (6, .iconst 2), (7, .invokestatic 74), (10, .ifCond .ne 6), (13, .bipush (-2)), (15, .ireturn), (16, .aload_n 0), (17, .getfield 36), (20, .invokevirtual 211), (23, .aload_n 0), (24, .getfield 36), (27, .iload_n 1), (28, .iconst 1), (29, .iadd), (30, .invokevirtual 205), (33, .ireturn)]
theorem co_X11_more : ∀ q ∈ cd_X11_more, qw_dec (qw_yb my_X11_more) q.1 q.2 := fun q h => qw_okb_dec (List.all_eq_true.mp (show cd_X11_more.all (qw_okb prog_1_method_22_code) = true by decide +kernel) q h)
def my_X11_never : qw_Y := (({ cls := "ShadowTheatre", name := "never", desc := "()I" } : Jvm.MethodName), prog_1_method_26_code, 1, (Option.some Jvm.ClassFile.FieldType.int), 0, 5, 115)
def cd_X11_never : List (Nat × Instr) := [(0, .aload_n 0), (1, .getfield 43), (4, .invokevirtual 222), (7, .ireturn)]
theorem co_X11_never : ∀ q ∈ cd_X11_never, qw_dec (qw_yb my_X11_never) q.1 q.2 := fun q h => qw_okb_dec (List.all_eq_true.mp (show cd_X11_never.all (qw_okb prog_1_method_26_code) = true by decide +kernel) q h)
def my_X11_parse : qw_Y := (({ cls := "ShadowTheatre", name := "parse", desc := "(I)V" } : Jvm.MethodName), prog_1_method_48_code, 2, (Option.none : Option Jvm.ClassFile.FieldType), 1, 9, 207)
def cd_X11_parse : List (Nat × Instr) := [(0, .iload_n 1), (1, .ifCond .ne 30), (4, .aload_n 0), (5, .getfield 27), (8, .getfield 100), (11, .aload_n 0), (12, .getfield 14), (15, .invokevirtual 352), (18, .aload_n 0), (19, .getfield 27), (22, .getfield 61), (25, .invokevirtual 65), (28, .goto 39), (31, .iload_n 1), (32, .iconst 1), (33, .if_icmp .ne 20), (36, .aload_n 0), (37, .getfield 27), (40, .getfield 109), (43, .aload_n 0), (44, .getfield 18), (47, .invokevirtual 355), (50, .goto 17), (53, .aload_n 0), (54, .getfield 27), (57, .getfield 116), (60, .aload_n 0), (61, .getfield 21), (64, .invokevirtual 356), (67, .return_)]
theorem co_X11_parse : ∀ q ∈ cd_X11_parse, qw_dec (qw_yb my_X11_parse) q.1 q.2 := fun q h => qw_okb_dec (List.all_eq_true.mp (show cd_X11_parse.all (qw_okb prog_1_method_48_code) = true by decide +kernel) q h)
def my_X11_picture : qw_Y := (({ cls := "ShadowTheatre", name := "picture", desc := "(I)I" } : Jvm.MethodName), prog_1_method_8_code, 2, (Option.some Jvm.ClassFile.FieldType.int), 1, 2, 42)
def cd_X11_picture : List (Nat × Instr) := [(0, .iload_n 1), (1, .bipush 32), (3, .invokestatic 74), (6, .ifCond .eq 17), (9, .aload_n 0), (10, .getfield 27), (13, .getfield 116), (16, .iload_n 1), (17, .invokevirtual 137), (20, .goto 5), (23, .bipush (-2)), (25, .ireturn)]
theorem co_X11_picture : ∀ q ∈ cd_X11_picture, qw_dec (qw_yb my_X11_picture) q.1 q.2 := fun q h => qw_okb_dec (List.all_eq_true.mp (show cd_X11_picture.all (qw_okb prog_1_method_8_code) = true by decide +kernel) q h)
def my_X11_play : qw_Y := (({ cls := "ShadowTheatre", name := "play", desc := "(III)I" } : Jvm.MethodName), prog_1_method_30_code, 4, (Option.some Jvm.ClassFile.FieldType.int), 3, 6, 130)
def cd_X11_play : List (Nat × Instr) := [(0, .iload_n 2), (1, .bipush 21), (3, .invokestatic 74), (6, .ifCond .eq 24), (9, .iload_n 3), (10, .iconst 2), (11, .invokestatic 74), (14, .ifCond .eq 16), (17, .aload_n 0), (18, .getfield 50), (21, .iload_n 1), (22, .iload_n 2), (23, .iload_n 3), (24, .invokevirtual 247), (27, .goto 5), (30, .bipush (-2)), (32, .ireturn)]
theorem co_X11_play : ∀ q ∈ cd_X11_play, qw_dec (qw_yb my_X11_play) q.1 q.2 := fun q h => qw_okb_dec (List.all_eq_true.mp (show cd_X11_play.all (qw_okb prog_1_method_30_code) = true by decide +kernel) q h)
def my_X11_read : qw_Y := (({ cls := "ShadowTheatre", name := "read", desc := "(I)I" } : Jvm.MethodName), prog_1_method_12_code, 4, (Option.some Jvm.ClassFile.FieldType.int), 1, 2, 42)
def cd_X11_read : List (Nat × Instr) := [(0, .aload_n 0), (1, .iload_n 1), (2, .invokevirtual 146), (5, .astore_n 2), (6, .aload_n 2), (7, .ifnonnull 6), (10, .bipush (-2)), (12, .ireturn), (13, .aload_n 2), (14, .invokevirtual 150), (17, .ifCond .eq 9), (20, .aload_n 0), (21, .iconst 1), (22, .invokevirtual 153), (25, .ireturn), (26, .iconst 0), (27, .istore_n 3), (28, .iload_n 3), (29, .aload_n 2), (30, .getfield 156), (33, .if_icmp .ge 51), (36, .aload_n 0), (37, .getfield 27), (40, .getfield 143), (43, .invokevirtual 78), (46, .ifCond .ne 38), (49, .aload_n 2), (50, .iload_n 3), (51, .invokevirtual 157), (54, .bipush 20), (56, .invokestatic 74), (59, .ifCond .eq 25), (62, .aload_n 0), (63, .getfield 27), (66, .getfield 143), (69, .aload_n 2), (70, .iload_n 3), (71, .invokevirtual 157), (74, .invokevirtual 82), (77, .pop), (78, .iinc 3 1), (81, .goto (-53)), (84, .iload_n 3), (85, .ireturn)]
theorem co_X11_read : ∀ q ∈ cd_X11_read, qw_dec (qw_yb my_X11_read) q.1 q.2 := fun q h => qw_okb_dec (List.all_eq_true.mp (show cd_X11_read.all (qw_okb prog_1_method_12_code) = true by decide +kernel) q h)
def my_X11_screen : qw_Y := (({ cls := "ShadowTheatre", name := "screen", desc := "(II)I" } : Jvm.MethodName), prog_1_method_16_code, 3, (Option.some Jvm.ClassFile.FieldType.int), 2, 4, 90)
def cd_X11_screen : List (Nat × Instr) := [(0, .iload_n 1), (1, .bipush 20), (3, .invokestatic 74), (6, .ifCond .eq 11), (9, .iload_n 2), (10, .iconst 2), (11, .invokestatic 74), (14, .ifCond .ne 6), (17, .bipush (-2)), (19, .ireturn), (20, .aload_n 0), (21, .getfield 27), (24, .iload_n 1), (25, .invokevirtual 160), (28, .iload_n 2), (29, .ifCond .ne 13), (32, .aload_n 0), (33, .getfield 27), (36, .invokevirtual 177), (39, .goto 16), (42, .aload_n 0), (43, .getfield 27), (46, .getfield 61), (49, .getfield 163), (52, .invokevirtual 180), (55, .ireturn)]
theorem co_X11_screen : ∀ q ∈ cd_X11_screen, qw_dec (qw_yb my_X11_screen) q.1 q.2 := fun q h => qw_okb_dec (List.all_eq_true.mp (show cd_X11_screen.all (qw_okb prog_1_method_16_code) = true by decide +kernel) q h)
def my_X11_seen : qw_Y := (({ cls := "ShadowTheatre", name := "seen", desc := "(III)I" } : Jvm.MethodName), prog_1_method_24_code, 4, (Option.some Jvm.ClassFile.FieldType.int), 3, 2, 44)
def cd_X11_seen : List (Nat × Instr) := [(0, .iload_n 1), (1, .bipush 20), (3, .invokestatic 74), (6, .ifCond .eq 21), (9, .iload_n 2), (10, .bipush 32), (12, .invokestatic 74), (15, .ifCond .eq 12), (18, .iload_n 3), (19, .bipush 8), (21, .invokestatic 74), (24, .ifCond .ne 6), (27, .bipush (-2)), (29, .ireturn), (30, .aload_n 0), (31, .getfield 43), (34, .getfield 217), (37, .invokevirtual 78), (40, .ifCond .eq 8), (43, .bipush (-4)), (45, .goto 13), (48, .aload_n 0), (49, .getfield 43), (52, .iload_n 1), (53, .iload_n 2), (54, .iload_n 3), (55, .invokevirtual 220), (58, .ireturn)]
theorem co_X11_seen : ∀ q ∈ cd_X11_seen, qw_dec (qw_yb my_X11_seen) q.1 q.2 := fun q h => qw_okb_dec (List.all_eq_true.mp (show cd_X11_seen.all (qw_okb prog_1_method_24_code) = true by decide +kernel) q h)
def my_X11_sheet : qw_Y := (({ cls := "ShadowTheatre", name := "sheet", desc := "(III)I" } : Jvm.MethodName), prog_1_method_31_code, 5, (Option.some Jvm.ClassFile.FieldType.int), 3, 2, 44)
def cd_X11_sheet : List (Nat × Instr) := [(0, .aload_n 0), (1, .iload_n 1), (2, .invokevirtual 146), (5, .astore 4), (7, .aload 4), (9, .ifnull 17), (12, .iload_n 2), (13, .iconst 3), (14, .invokestatic 74), (17, .ifCond .eq 9), (20, .iload_n 3), (21, .bipush 60), (23, .if_icmp .le 6), (26, .bipush (-2)), (28, .ireturn), (29, .iload_n 3), (30, .ifCond .ge 9), (33, .aload_n 0), (34, .iconst 5), (35, .invokevirtual 153), (38, .ireturn), (39, .aload 4), (41, .iload_n 2), (42, .iload_n 3), (43, .invokevirtual 250), (46, .iload_n 3), (47, .ireturn)]
theorem co_X11_sheet : ∀ q ∈ cd_X11_sheet, qw_dec (qw_yb my_X11_sheet) q.1 q.2 := fun q h => qw_okb_dec (List.all_eq_true.mp (show cd_X11_sheet.all (qw_okb prog_1_method_31_code) = true by decide +kernel) q h)
def my_X11_sheetOf : qw_Y := (({ cls := "ShadowTheatre", name := "sheetOf", desc := "(I)LShadowTheatre$Sheet;" } : Jvm.MethodName), prog_1_method_49_code, 2, (Option.some (Jvm.ClassFile.FieldType.object "ShadowTheatre$Sheet")), 1, 1, 21)
def cd_X11_sheetOf : List (Nat × Instr) := [(0, .iload_n 1), (1, .iconst 4), (2, .invokestatic 74), (5, .ifCond .eq 12), (8, .aload_n 0), (9, .getfield 56), (12, .iload_n 1), (13, .aaload), (14, .goto 4), (17, .aconst_null), (18, .areturn)]
theorem co_X11_sheetOf : ∀ q ∈ cd_X11_sheetOf, qw_dec (qw_yb my_X11_sheetOf) q.1 q.2 := fun q h => qw_okb_dec (List.all_eq_true.mp (show cd_X11_sheetOf.all (qw_okb prog_1_method_49_code) = true by decide +kernel) q h)
def my_X11_shift : qw_Y := (({ cls := "ShadowTheatre", name := "shift", desc := "(II)I" } : Jvm.MethodName), prog_1_method_21_code, 3, (Option.some Jvm.ClassFile.FieldType.int), 2, 5, 109)
def cd_X11_shift : List (Nat × Instr) := [(0, .iload_n 1), (1, .bipush 20), (3, .invokestatic 74), (6, .ifCond .eq 11), (9, .iload_n 2), (10, .iconst 2), (11, .invokestatic 74), (14, .ifCond .ne 6), (17, .bipush (-2)), (19, .ireturn), (20, .aload_n 0), (21, .getfield 36), (24, .iload_n 1), (25, .invokevirtual 208), (28, .aload_n 0), (29, .getfield 36), (32, .iload_n 2), (33, .invokevirtual 205), (36, .ireturn)]
theorem co_X11_shift : ∀ q ∈ cd_X11_shift, qw_dec (qw_yb my_X11_shift) q.1 q.2 := fun q h => qw_okb_dec (List.all_eq_true.mp (show cd_X11_shift.all (qw_okb prog_1_method_21_code) = true by decide +kernel) q h)
def my_X11_shown : qw_Y := (({ cls := "ShadowTheatre", name := "shown", desc := "(I)I" } : Jvm.MethodName), prog_1_method_17_code, 3, (Option.some Jvm.ClassFile.FieldType.int), 1, 5, 106)
def cd_X11_shown : List (Nat × Instr) := [(0, .iload_n 1), (1, .iconst 2), (2, .invokestatic 74), (5, .ifCond .ne 6), (8, .bipush (-2)), (10, .ireturn), (11, .aload_n 0), (12, .getfield 27), (15, .aload_n 0), (16, .getfield 27), (19, .getfield 109), (22, .invokevirtual 183), (25, .istore_n 2), (26, .iload_n 1), (27, .ifCond .ne 10), (30, .iload_n 2), (31, .invokestatic 187), (34, .goto 7), (37, .iload_n 2), (38, .invokestatic 190), (41, .ireturn)]
theorem co_X11_shown : ∀ q ∈ cd_X11_shown, qw_dec (qw_yb my_X11_shown) q.1 q.2 := fun q h => qw_okb_dec (List.all_eq_true.mp (show cd_X11_shown.all (qw_okb prog_1_method_17_code) = true by decide +kernel) q h)
def my_X11_stumble : qw_Y := (({ cls := "ShadowTheatre", name := "stumble", desc := "(IIII)J" } : Jvm.MethodName), prog_1_method_29_code, 5, (Option.some Jvm.ClassFile.FieldType.long), 4, 6, 134)
def cd_X11_stumble : List (Nat × Instr) := [(0, .iload_n 1), (1, .bipush 17), (3, .invokestatic 74), (6, .ifCond .eq 30), (9, .iload_n 2), (10, .bipush 10), (12, .invokestatic 74), (15, .ifCond .eq 21), (18, .iload_n 3), (19, .bipush 20), (21, .invokestatic 74), (24, .ifCond .eq 12), (27, .iload 4), (29, .iconst 2), (30, .invokestatic 74), (33, .ifCond .ne 7), (36, .ldc2_w 234), (39, .lreturn), (40, .aload_n 0), (41, .getfield 50), (44, .iload_n 1), (45, .iload_n 2), (46, .iload_n 3), (47, .invokevirtual 236), (50, .iload 4), (52, .ifCond .ne 13), (55, .aload_n 0), (56, .getfield 50), (59, .getfield 240), (62, .goto 10), (65, .aload_n 0), (66, .getfield 50), (69, .getfield 244), (72, .lreturn)]
theorem co_X11_stumble : ∀ q ∈ cd_X11_stumble, qw_dec (qw_yb my_X11_stumble) q.1 q.2 := fun q h => qw_okb_dec (List.all_eq_true.mp (show cd_X11_stumble.all (qw_okb prog_1_method_29_code) = true by decide +kernel) q h)
def my_X11_textOf : qw_Y := (({ cls := "ShadowTheatre", name := "textOf", desc := "(I)LShadowTheatre$Row;" } : Jvm.MethodName), prog_1_method_47_code, 2, (Option.some (Jvm.ClassFile.FieldType.object "ShadowTheatre$Row")), 1, 0, 0)
def cd_X11_textOf : List (Nat × Instr) := [(0, .iload_n 1), (1, .ifCond .ne 10), (4, .aload_n 0), (5, .getfield 14), (8, .goto 28), (11, .iload_n 1), (12, .iconst 1), (13, .if_icmp .ne 10), (16, .aload_n 0), (17, .getfield 18), (20, .goto 16), (23, .iload_n 1), (24, .iconst 2), (25, .if_icmp .ne 10), (28, .aload_n 0), (29, .getfield 21), (32, .goto 4), (35, .aconst_null), (36, .areturn)]
theorem co_X11_textOf : ∀ q ∈ cd_X11_textOf, qw_dec (qw_yb my_X11_textOf) q.1 q.2 := fun q h => qw_okb_dec (List.all_eq_true.mp (show cd_X11_textOf.all (qw_okb prog_1_method_47_code) = true by decide +kernel) q h)
def my_X11_touched : qw_Y := (({ cls := "ShadowTheatre", name := "touched", desc := "(I)I" } : Jvm.MethodName), prog_1_method_18_code, 2, (Option.some Jvm.ClassFile.FieldType.int), 1, 3, 66)
def cd_X11_touched : List (Nat × Instr) := [(0, .iload_n 1), (1, .iconst 3), (2, .invokestatic 74), (5, .ifCond .eq 14), (8, .aload_n 0), (9, .getfield 27), (12, .iload_n 1), (13, .invokevirtual 195), (16, .goto 5), (19, .bipush (-2)), (21, .ireturn)]
theorem co_X11_touched : ∀ q ∈ cd_X11_touched, qw_dec (qw_yb my_X11_touched) q.1 q.2 := fun q h => qw_okb_dec (List.all_eq_true.mp (show cd_X11_touched.all (qw_okb prog_1_method_18_code) = true by decide +kernel) q h)
def my_X11_type : qw_Y := (({ cls := "ShadowTheatre", name := "type", desc := "(II)I" } : Jvm.MethodName), prog_1_method_2_code, 4, (Option.some Jvm.ClassFile.FieldType.int), 2, 10, 228)
def cd_X11_type : List (Nat × Instr) := [(0, .aload_n 0), (1, .iload_n 1), (2, .invokevirtual 70), (5, .astore_n 3), (6, .aload_n 3), (7, .ifnull 13), (10, .iload_n 2), (11, .sipush 256), (14, .invokestatic 74), (17, .ifCond .ne 6), (20, .bipush (-2)), (22, .ireturn), (23, .aload_n 3), (24, .invokevirtual 78), (27, .ifCond .eq 6), (30, .bipush (-4)), (32, .ireturn), (33, .aload_n 3), (34, .iload_n 2), (35, .invokevirtual 82), (38, .pop), (39, .aload_n 0), (40, .iload_n 1), (41, .invokevirtual 86), (44, .aload_n 3), (45, .getfield 89), (48, .ireturn)]
theorem co_X11_type : ∀ q ∈ cd_X11_type, qw_dec (qw_yb my_X11_type) q.1 q.2 := fun q h => qw_okb_dec (List.all_eq_true.mp (show cd_X11_type.all (qw_okb prog_1_method_2_code) = true by decide +kernel) q h)
def my_X11_undo : qw_Y := (({ cls := "ShadowTheatre", name := "undo", desc := "(I)I" } : Jvm.MethodName), prog_1_method_4_code, 3, (Option.some Jvm.ClassFile.FieldType.int), 1, 10, 228)
def cd_X11_undo : List (Nat × Instr) := [(0, .aload_n 0), (1, .iload_n 1), (2, .invokevirtual 70), (5, .astore_n 2), (6, .aload_n 2), (7, .ifnonnull 6), (10, .bipush (-2)), (12, .ireturn), (13, .aload_n 2), (14, .getfield 89), (17, .ifCond .ne 6), (20, .bipush (-3)), (22, .ireturn), (23, .aload_n 2), (24, .invokevirtual 97), (27, .pop), (28, .aload_n 0), (29, .iload_n 1), (30, .invokevirtual 86), (33, .aload_n 2), (34, .getfield 89), (37, .ireturn)]
theorem co_X11_undo : ∀ q ∈ cd_X11_undo, qw_dec (qw_yb my_X11_undo) q.1 q.2 := fun q h => qw_okb_dec (List.all_eq_true.mp (show cd_X11_undo.all (qw_okb prog_1_method_4_code) = true by decide +kernel) q h)
def my_X11_was : qw_Y := (({ cls := "ShadowTheatre", name := "was", desc := "(II)I" } : Jvm.MethodName), prog_1_method_27_code, 3, (Option.some Jvm.ClassFile.FieldType.int), 2, 5, 115)
def cd_X11_was : List (Nat × Instr) := [(0, .aload_n 0), (1, .getfield 27), (4, .getfield 100), (7, .iload_n 1), (8, .invokevirtual 123), (11, .ifCond .eq 11), (14, .iload_n 2), (15, .iconst 2), (16, .invokestatic 74), (19, .ifCond .ne 6), (22, .bipush (-2)), (24, .ireturn), (25, .iload_n 2), (26, .ifCond .ne 14), (29, .aload_n 0), (30, .getfield 43), (33, .iload_n 1), (34, .invokevirtual 225), (37, .goto 11), (40, .aload_n 0), (41, .getfield 43), (44, .iload_n 1), (45, .invokevirtual 228), (48, .ireturn)]
theorem co_X11_was : ∀ q ∈ cd_X11_was, qw_dec (qw_yb my_X11_was) q.1 q.2 := fun q h => qw_okb_dec (List.all_eq_true.mp (show cd_X11_was.all (qw_okb prog_1_method_27_code) = true by decide +kernel) q h)
def my_X11_wipe : qw_Y := (({ cls := "ShadowTheatre", name := "wipe", desc := "(I)I" } : Jvm.MethodName), prog_1_method_3_code, 4, (Option.some Jvm.ClassFile.FieldType.int), 1, 10, 228)
def cd_X11_wipe : List (Nat × Instr) := [(0, .aload_n 0), (1, .iload_n 1), (2, .invokevirtual 70), (5, .astore_n 2), (6, .aload_n 2), (7, .ifnonnull 6), (10, .bipush (-2)), (12, .ireturn), (13, .aload_n 2), (14, .invokevirtual 93), (17, .istore_n 3), (18, .aload_n 0), (19, .iload_n 1), (20, .invokevirtual 86), (23, .iload_n 3), (24, .ireturn)]
theorem co_X11_wipe : ∀ q ∈ cd_X11_wipe, qw_dec (qw_yb my_X11_wipe) q.1 q.2 := fun q h => qw_okb_dec (List.all_eq_true.mp (show cd_X11_wipe.all (qw_okb prog_1_method_3_code) = true by decide +kernel) q h)
def my_X11_write : qw_Y := (({ cls := "ShadowTheatre", name := "write", desc := "(II)I" } : Jvm.MethodName), prog_1_method_36_code, 6, (Option.some Jvm.ClassFile.FieldType.int), 2, 4, 90)
def cd_X11_write : List (Nat × Instr) := [(0, .aload_n 0), (1, .iload_n 2), (2, .invokevirtual 146), (5, .astore_n 3), (6, .iload_n 1), (7, .bipush 20), (9, .invokestatic 74), (12, .ifCond .eq 7), (15, .aload_n 3), (16, .ifnonnull 6), (19, .bipush (-2)), (21, .ireturn), (22, .aload_n 3), (23, .invokevirtual 150), (26, .ifCond .eq 9), (29, .aload_n 0), (30, .iconst 1), (31, .invokevirtual 153), (34, .ireturn), (35, .aload_n 0), (36, .getfield 27), (39, .iload_n 1), (40, .invokevirtual 160), (43, .aload_n 3), (44, .getfield 156), (47, .bipush 32), (49, .invokestatic 278), (52, .istore 4), (54, .iconst 0), (55, .istore 5), (57, .iload 5), (59, .iload 4), (61, .if_icmp .ge 30), (64, .aload_n 3), (65, .iload 5), (67, .aload_n 0), (68, .getfield 27), (71, .getfield 61), (74, .getfield 163), (77, .iload 5), (79, .invokevirtual 167), (82, .invokevirtual 258), (85, .iinc 5 1), (88, .goto (-31)), (91, .iload 4), (93, .ireturn)]
theorem co_X11_write : ∀ q ∈ cd_X11_write, qw_dec (qw_yb my_X11_write) q.1 q.2 := fun q h => qw_okb_dec (List.all_eq_true.mp (show cd_X11_write.all (qw_okb prog_1_method_36_code) = true by decide +kernel) q h)
def my_X12_init : qw_Y := (({ cls := "ShadowTheatreModel", name := "<init>", desc := "()V" } : Jvm.MethodName), prog_14_method_1_code, 2, (Option.none : Option Jvm.ClassFile.FieldType), 0, 0, 0)
def my_X12_ask : qw_Y := (({ cls := "ShadowTheatreModel", name := "ask", desc := "(I)I" } : Jvm.MethodName), prog_14_method_90_code, 2, (Option.some Jvm.ClassFile.FieldType.int), 1, 6, 147)
def cd_X12_ask : List (Nat × Instr) := [(0, .aload_n 0), (1, .invokevirtual 208), (4, .aload_n 0), (5, .iload_n 1), (6, .invokevirtual 149), (9, .ifCond .eq 11), (12, .aload_n 0), (13, .iload_n 1), (14, .invokevirtual 285), (17, .goto 5), (20, .bipush (-2)), (22, .ireturn)]
theorem co_X12_ask : ∀ q ∈ cd_X12_ask, qw_dec (qw_yb my_X12_ask) q.1 q.2 := fun q h => qw_okb_dec (List.all_eq_true.mp (show cd_X12_ask.all (qw_okb prog_14_method_90_code) = true by decide +kernel) q h)
def my_X12_askOf : qw_Y := (({ cls := "ShadowTheatreModel", name := "askOf", desc := "(I)I" } : Jvm.MethodName), prog_14_method_89_code, 9, (Option.some Jvm.ClassFile.FieldType.int), 1, 5, 119)
def cd_X12_askOf : List (Nat × Instr) := [(0, .aload_n 0), (1, .iload_n 1), (2, .invokevirtual 279), (5, .istore_n 2), (6, .aload_n 0), (7, .getfield 28), (10, .iconst 4), (11, .iload_n 1), (12, .imul), (13, .iaload), (14, .istore_n 3), (15, .iconst 0), (16, .istore 4), (18, .iload 4), (20, .sipush 256), (23, .if_icmp .ge 17), (26, .aload_n 0), (27, .getfield 61), (30, .iload 4), (32, .iconst 0), (33, .iastore), (34, .iinc 4 1), (37, .goto (-19)), (40, .iconst 1), (41, .istore 4), (43, .iload 4), (45, .bipush 9), (47, .if_icmp .ge 71), (50, .iload_n 2), (51, .iload 4), (53, .invokestatic 183), (56, .ifCond .eq 56), (59, .aload_n 0), (60, .getfield 28), (63, .iconst 4), (64, .iload_n 1), (65, .imul), (66, .iload 4), (68, .iastore), (69, .aload_n 0), (70, .invokevirtual 195), (73, .iconst 0), (74, .istore 5), (76, .iload 5), (78, .bipush 32), (80, .if_icmp .ge 32), (83, .aload_n 0), (84, .getfield 61), (87, .bipush 8), (89, .iload 5), (91, .imul), (92, .aload_n 0), (93, .bipush 19), (95, .iload 5), (97, .invokevirtual 211), (100, .iadd), (101, .dup2), (102, .iaload), (103, .iconst 1), (104, .iadd), (105, .iastore), (106, .iinc 5 1), (109, .goto (-33)), (112, .iinc 4 1), (115, .goto (-72)), (118, .aload_n 0), (119, .getfield 28), (122, .iconst 4), (123, .iload_n 1), (124, .imul), (125, .iload_n 3), (126, .iastore), (127, .iconst (-1)), (128, .istore 4), (130, .iconst 0), (131, .istore 5), (133, .iconst 0), (134, .istore 6), (136, .iload 6), (138, .bipush 32), (140, .if_icmp .ge 96), (143, .iconst 0), (144, .istore 7), (146, .iconst 0), (147, .istore 8), (149, .iload 8), (151, .bipush 8), (153, .if_icmp .ge 29), (156, .aload_n 0), (157, .getfield 61), (160, .bipush 8), (162, .iload 6), (164, .imul), (165, .iload 8), (167, .iadd), (168, .iaload), (169, .iload 7), (171, .invokestatic 174), (174, .istore 7), (176, .iinc 8 1), (179, .goto (-30)), (182, .iload 4), (184, .iconst (-1)), (185, .if_icmp .eq 10), (188, .iload 7), (190, .iload 5), (192, .if_icmp .ge 7), (195, .iconst 1), (196, .goto 4), (199, .iconst 0), (200, .istore 8), (202, .iload 8), (204, .ifCond .eq 8), (207, .iload 6), (209, .goto 5), (212, .iload 4), (214, .istore 4), (216, .iload 8), (218, .ifCond .eq 8), (221, .iload 7), (223, .goto 5), (226, .iload 5), (228, .istore 5), (230, .iinc 6 1), (233, .goto (-97)), (236, .iload 4), (238, .ireturn)]
theorem co_X12_askOf : ∀ q ∈ cd_X12_askOf, qw_dec (qw_yb my_X12_askOf) q.1 q.2 := fun q h => qw_okb_dec (List.all_eq_true.mp (show cd_X12_askOf.all (qw_okb prog_14_method_89_code) = true by decide +kernel) q h)
def my_X12_at : qw_Y := (({ cls := "ShadowTheatreModel", name := "at", desc := "(III)I" } : Jvm.MethodName), prog_14_method_57_code, 4, (Option.some Jvm.ClassFile.FieldType.int), 3, 5, 116)
def cd_X12_at : List (Nat × Instr) := [(0, .aload_n 0), (1, .invokevirtual 208), (4, .iload_n 1), (5, .invokestatic 157), (8, .ifCond .eq 33), (11, .aload_n 0), (12, .iload_n 2), (13, .invokevirtual 149), (16, .ifCond .eq 25), (19, .iload_n 3), (20, .i2l), (21, .lconst 0), (22, .ldc2_w 77), (25, .invokestatic 70), (28, .ifCond .eq 13), (31, .aload_n 0), (32, .iload_n 1), (33, .iload_n 2), (34, .iload_n 3), (35, .invokevirtual 217), (38, .goto 5), (41, .bipush (-2)), (43, .ireturn)]
theorem co_X12_at : ∀ q ∈ cd_X12_at, qw_dec (qw_yb my_X12_at) q.1 q.2 := fun q h => qw_okb_dec (List.all_eq_true.mp (show cd_X12_at.all (qw_okb prog_14_method_57_code) = true by decide +kernel) q h)
def my_X12_atOf : qw_Y := (({ cls := "ShadowTheatreModel", name := "atOf", desc := "(III)I" } : Jvm.MethodName), prog_14_method_56_code, 8, (Option.some Jvm.ClassFile.FieldType.int), 3, 2, 49)
def cd_X12_atOf : List (Nat × Instr) := [(0, .iconst 0), (1, .istore 4), (3, .iconst (-1)), (4, .istore 5), (6, .bipush 31), (8, .istore 6), (10, .iload 6), (12, .ifCond .lt 48), (15, .aload_n 0), (16, .iload_n 1), (17, .iload_n 2), (18, .iload 6), (20, .invokevirtual 201), (23, .istore 7), (25, .iload 4), (27, .iload 7), (29, .ifCond .eq 7), (32, .iconst 1), (33, .goto 4), (36, .iconst 0), (37, .iadd), (38, .istore 4), (40, .iload 7), (42, .ifCond .eq 8), (45, .iload 6), (47, .goto 5), (50, .iload 5), (52, .istore 5), (54, .iinc 6 (-1)), (57, .goto (-47)), (60, .iload_n 3), (61, .ifCond .ne 17), (64, .aload_n 0), (65, .getfield 46), (68, .bipush 8), (70, .iload_n 1), (71, .imul), (72, .iload_n 2), (73, .iadd), (74, .iaload), (75, .goto 34), (78, .iload_n 3), (79, .iconst 1), (80, .if_icmp .ne 17), (83, .aload_n 0), (84, .getfield 49), (87, .bipush 8), (89, .iload_n 1), (90, .imul), (91, .iload_n 2), (92, .iadd), (93, .iaload), (94, .goto 15), (97, .iload_n 3), (98, .iconst 2), (99, .if_icmp .ne 8), (102, .iload 4), (104, .goto 5), (107, .iload 5), (109, .ireturn)]
theorem co_X12_atOf : ∀ q ∈ cd_X12_atOf, qw_dec (qw_yb my_X12_atOf) q.1 q.2 := fun q h => qw_okb_dec (List.all_eq_true.mp (show cd_X12_atOf.all (qw_okb prog_14_method_56_code) = true by decide +kernel) q h)
def my_X12_back : qw_Y := (({ cls := "ShadowTheatreModel", name := "back", desc := "()I" } : Jvm.MethodName), prog_14_method_44_code, 1, (Option.some Jvm.ClassFile.FieldType.int), 0, 0, 0)
def cd_X12_back : List (Nat × Instr) := [(0, .aload_n 0), (1, .getfield 169), (4, .ifCond .ne 6), (7, .bipush (-3)), (9, .ireturn), (10, .aload_n 0), (11, .dup), (12, .getfield 169), (15, .iconst 1), (16, .isub), (17, .putfield 169), (20, .aload_n 0), (21, .getfield 169), (24, .ireturn)]
theorem co_X12_back : ∀ q ∈ cd_X12_back, qw_dec (qw_yb my_X12_back) q.1 q.2 := fun q h => qw_okb_dec (List.all_eq_true.mp (show cd_X12_back.all (qw_okb prog_14_method_44_code) = true by decide +kernel) q h)
def my_X12_blank : qw_Y := (({ cls := "ShadowTheatreModel", name := "blank", desc := "(I)I" } : Jvm.MethodName), prog_14_method_30_code, 3, (Option.some Jvm.ClassFile.FieldType.int), 1, 0, 0)
def cd_X12_blank : List (Nat × Instr) := [(0, .iconst 0), (1, .istore_n 2), (2, .iload_n 2), (3, .bipush 32), (5, .if_icmp .ge 16), (8, .aload_n 0), (9, .getfield 40), (12, .iload_n 2), (13, .iconst (-1)), (14, .iastore), (15, .iinc 2 1), (18, .goto (-16)), (21, .iload_n 1), (22, .ireturn)]
theorem co_X12_blank : ∀ q ∈ cd_X12_blank, qw_dec (qw_yb my_X12_blank) q.1 q.2 := fun q h => qw_okb_dec (List.all_eq_true.mp (show cd_X12_blank.all (qw_okb prog_14_method_30_code) = true by decide +kernel) q h)
def my_X12_cellsTold : qw_Y := (({ cls := "ShadowTheatreModel", name := "cellsTold", desc := "()I" } : Jvm.MethodName), prog_14_method_61_code, 3, (Option.some Jvm.ClassFile.FieldType.int), 0, 0, 0)
def cd_X12_cellsTold : List (Nat × Instr) := [(0, .iconst 0), (1, .istore_n 1), (2, .iconst 0), (3, .istore_n 2), (4, .iload_n 2), (5, .bipush 32), (7, .if_icmp .ge 27), (10, .iload_n 1), (11, .aload_n 0), (12, .getfield 40), (15, .iload_n 2), (16, .iaload), (17, .iconst (-1)), (18, .if_icmp .ne 7), (21, .iconst 0), (22, .goto 4), (25, .iconst 1), (26, .iadd), (27, .istore_n 1), (28, .iinc 2 1), (31, .goto (-27)), (34, .iload_n 1), (35, .ireturn)]
theorem co_X12_cellsTold : ∀ q ∈ cd_X12_cellsTold, qw_dec (qw_yb my_X12_cellsTold) q.1 q.2 := fun q h => qw_okb_dec (List.all_eq_true.mp (show cd_X12_cellsTold.all (qw_okb prog_14_method_61_code) = true by decide +kernel) q h)
def my_X12_colourBy : qw_Y := (({ cls := "ShadowTheatreModel", name := "colourBy", desc := "(I)I" } : Jvm.MethodName), prog_14_method_85_code, 5, (Option.some Jvm.ClassFile.FieldType.int), 1, 4, 95)
def cd_X12_colourBy : List (Nat × Instr) := [(0, .aload_n 0), (1, .getfield 28), (4, .iconst 4), (5, .iload_n 1), (6, .imul), (7, .iconst 2), (8, .iadd), (9, .iaload), (10, .istore_n 2), (11, .iconst 0), (12, .istore_n 3), (13, .iconst 0), (14, .istore 4), (16, .iload 4), (18, .iconst 4), (19, .if_icmp .ge 39), (22, .aload_n 0), (23, .getfield 28), (26, .iconst 4), (27, .iload_n 1), (28, .imul), (29, .iconst 2), (30, .iadd), (31, .iload 4), (33, .iastore), (34, .iload_n 3), (35, .aload_n 0), (36, .invokevirtual 269), (39, .ifCond .eq 10), (42, .iconst 1), (43, .iload 4), (45, .ishl), (46, .goto 4), (49, .iconst 0), (50, .ior), (51, .istore_n 3), (52, .iinc 4 1), (55, .goto (-39)), (58, .aload_n 0), (59, .getfield 28), (62, .iconst 4), (63, .iload_n 1), (64, .imul), (65, .iconst 2), (66, .iadd), (67, .iload_n 2), (68, .iastore), (69, .iload_n 3), (70, .ireturn)]
theorem co_X12_colourBy : ∀ q ∈ cd_X12_colourBy, qw_dec (qw_yb my_X12_colourBy) q.1 q.2 := fun q h => qw_okb_dec (List.all_eq_true.mp (show cd_X12_colourBy.all (qw_okb prog_14_method_85_code) = true by decide +kernel) q h)
def my_X12_colourOf : qw_Y := (({ cls := "ShadowTheatreModel", name := "colourOf", desc := "(I)I" } : Jvm.MethodName), prog_14_method_24_code, 1, (Option.some Jvm.ClassFile.FieldType.int), 1, 0, 0)
def cd_X12_colourOf : List (Nat × Instr) := [(0, .iload_n 0), (1, .bipush 107), (3, .if_icmp .ne 7), (6, .iconst 0), (7, .goto 35), (10, .iload_n 0), (11, .bipush 114), (13, .if_icmp .ne 7), (16, .iconst 1), (17, .goto 25), (20, .iload_n 0), (21, .bipush 103), (23, .if_icmp .ne 7), (26, .iconst 2), (27, .goto 15), (30, .iload_n 0), (31, .bipush 98), (33, .if_icmp .ne 7), (36, .iconst 3), (37, .goto 5), (40, .bipush (-9)), (42, .ireturn)]
theorem co_X12_colourOf : ∀ q ∈ cd_X12_colourOf, qw_dec (qw_yb my_X12_colourOf) q.1 q.2 := fun q h => qw_okb_dec (List.all_eq_true.mp (show cd_X12_colourOf.all (qw_okb prog_14_method_24_code) = true by decide +kernel) q h)
def my_X12_copy : qw_Y := (({ cls := "ShadowTheatreModel", name := "copy", desc := "(IIIII)I" } : Jvm.MethodName), prog_14_method_18_code, 7, (Option.some Jvm.ClassFile.FieldType.int), 5, 2, 45)
def cd_X12_copy : List (Nat × Instr) := [(0, .iload_n 1), (1, .invokestatic 79), (4, .ifCond .eq 10), (7, .iload_n 3), (8, .invokestatic 79), (11, .ifCond .ne 6), (14, .bipush (-2)), (16, .ireturn), (17, .aload_n 0), (18, .getfield 7), (21, .iload_n 1), (22, .iaload), (23, .ifCond .lt 12), (26, .aload_n 0), (27, .getfield 7), (30, .iload_n 3), (31, .iaload), (32, .ifCond .ge 9), (35, .aload_n 0), (36, .iconst 1), (37, .invokevirtual 85), (40, .ireturn), (41, .aload_n 0), (42, .getfield 7), (45, .iload_n 1), (46, .iaload), (47, .aload_n 0), (48, .getfield 7), (51, .iload_n 3), (52, .iaload), (53, .if_icmp .eq 9), (56, .aload_n 0), (57, .iconst 4), (58, .invokevirtual 85), (61, .ireturn), (62, .iload_n 2), (63, .ifCond .lt 48), (66, .iload 4), (68, .ifCond .lt 43), (71, .iload 5), (73, .ifCond .lt 38), (76, .iload_n 2), (77, .i2l), (78, .iload 5), (80, .i2l), (81, .ladd), (82, .aload_n 0), (83, .getfield 13), (86, .iload_n 1), (87, .iaload), (88, .i2l), (89, .lcmp), (90, .ifCond .gt 21), (93, .iload 4), (95, .i2l), (96, .iload 5), (98, .i2l), (99, .ladd), (100, .aload_n 0), (101, .getfield 13), (104, .iload_n 3), (105, .iaload), (106, .i2l), (107, .lcmp), (108, .ifCond .le 9), (111, .aload_n 0), (112, .iconst 2), (113, .invokevirtual 85), (116, .ireturn), (117, .iconst 0), (118, .istore 6), (120, .iload 6), (122, .iload 5), (124, .if_icmp .ge 30), (127, .aload_n 0), (128, .getfield 19), (131, .iload 6), (133, .aload_n 0), (134, .getfield 16), (137, .bipush 60), (139, .iload_n 1), (140, .imul), (141, .iload_n 2), (142, .iadd), (143, .iload 6), (145, .iadd), (146, .iaload), (147, .iastore), (148, .iinc 6 1), (151, .goto (-31)), (154, .iconst 0), (155, .istore 6), (157, .iload 6), (159, .iload 5), (161, .if_icmp .ge 31), (164, .aload_n 0), (165, .getfield 16), (168, .bipush 60), (170, .iload_n 3), (171, .imul), (172, .iload 4), (174, .iadd), (175, .iload 6), (177, .iadd), (178, .aload_n 0), (179, .getfield 19), (182, .iload 6), (184, .iaload), (185, .iastore), (186, .iinc 6 1), (189, .goto (-32)), (192, .iconst 1), (193, .ireturn)]
theorem co_X12_copy : ∀ q ∈ cd_X12_copy, qw_dec (qw_yb my_X12_copy) q.1 q.2 := fun q h => qw_okb_dec (List.all_eq_true.mp (show cd_X12_copy.all (qw_okb prog_14_method_18_code) = true by decide +kernel) q h)
def my_X12_count : qw_Y := (({ cls := "ShadowTheatreModel", name := "count", desc := "(I)I" } : Jvm.MethodName), prog_14_method_98_code, 2, (Option.some Jvm.ClassFile.FieldType.int), 1, 5, 116)
def cd_X12_count : List (Nat × Instr) := [(0, .aload_n 0), (1, .invokevirtual 208), (4, .iload_n 1), (5, .tableswitch 90 0 8 #[51, 56, 61, 66, 66, 66, 75, 80, 85]), (56, .aload_n 0), (57, .getfield 109), (60, .ireturn), (61, .aload_n 0), (62, .invokevirtual 314), (65, .ireturn), (66, .aload_n 0), (67, .invokevirtual 226), (70, .ireturn), (71, .aload_n 0), (72, .getfield 25), (75, .iload_n 1), (76, .iconst 3), (77, .isub), (78, .iaload), (79, .ireturn), (80, .aload_n 0), (81, .getfield 169), (84, .ireturn), (85, .aload_n 0), (86, .getfield 266), (89, .ireturn), (90, .aload_n 0), (91, .getfield 74), (94, .ireturn), (95, .bipush (-2)), (97, .ireturn)]
theorem co_X12_count : ∀ q ∈ cd_X12_count, qw_dec (qw_yb my_X12_count) q.1 q.2 := fun q h => qw_okb_dec (List.all_eq_true.mp (show cd_X12_count.all (qw_okb prog_14_method_98_code) = true by decide +kernel) q h)
def my_X12_covers : qw_Y := (({ cls := "ShadowTheatreModel", name := "covers", desc := "(II)I" } : Jvm.MethodName), prog_14_method_55_code, 3, (Option.some Jvm.ClassFile.FieldType.int), 2, 5, 116)
def cd_X12_covers : List (Nat × Instr) := [(0, .aload_n 0), (1, .invokevirtual 208), (4, .iload_n 1), (5, .invokestatic 157), (8, .ifCond .eq 19), (11, .iload_n 2), (12, .invokestatic 166), (15, .ifCond .eq 12), (18, .aload_n 0), (19, .iload_n 1), (20, .iload_n 2), (21, .invokevirtual 214), (24, .goto 5), (27, .bipush (-2)), (29, .ireturn)]
theorem co_X12_covers : ∀ q ∈ cd_X12_covers, qw_dec (qw_yb my_X12_covers) q.1 q.2 := fun q h => qw_okb_dec (List.all_eq_true.mp (show cd_X12_covers.all (qw_okb prog_14_method_55_code) = true by decide +kernel) q h)
def my_X12_coversOf : qw_Y := (({ cls := "ShadowTheatreModel", name := "coversOf", desc := "(II)I" } : Jvm.MethodName), prog_14_method_52_code, 5, (Option.some Jvm.ClassFile.FieldType.int), 2, 2, 49)
def cd_X12_coversOf : List (Nat × Instr) := [(0, .iconst 0), (1, .istore_n 3), (2, .iconst 0), (3, .istore 4), (5, .iload 4), (7, .aload_n 0), (8, .getfield 109), (11, .if_icmp .ge 31), (14, .iload_n 3), (15, .aload_n 0), (16, .iload_n 1), (17, .iload 4), (19, .iload_n 2), (20, .invokevirtual 201), (23, .ifCond .eq 10), (26, .iconst 1), (27, .iload 4), (29, .ishl), (30, .goto 4), (33, .iconst 0), (34, .ior), (35, .istore_n 3), (36, .iinc 4 1), (39, .goto (-34)), (42, .iload_n 3), (43, .ireturn)]
theorem co_X12_coversOf : ∀ q ∈ cd_X12_coversOf, qw_dec (qw_yb my_X12_coversOf) q.1 q.2 := fun q h => qw_okb_dec (List.all_eq_true.mp (show cd_X12_coversOf.all (qw_okb prog_14_method_52_code) = true by decide +kernel) q h)
def my_X12_cue : qw_Y := (({ cls := "ShadowTheatreModel", name := "cue", desc := "(II)I" } : Jvm.MethodName), prog_14_method_40_code, 3, (Option.some Jvm.ClassFile.FieldType.int), 2, 2, 50)
def cd_X12_cue : List (Nat × Instr) := [(0, .aload_n 0), (1, .invokevirtual 136), (4, .pop), (5, .iload_n 1), (6, .invokestatic 157), (9, .ifCond .eq 19), (12, .iload_n 2), (13, .invokestatic 160), (16, .ifCond .eq 12), (19, .aload_n 0), (20, .iload_n 1), (21, .iload_n 2), (22, .invokevirtual 163), (25, .goto 5), (28, .bipush (-2)), (30, .ireturn)]
theorem co_X12_cue : ∀ q ∈ cd_X12_cue, qw_dec (qw_yb my_X12_cue) q.1 q.2 := fun q h => qw_okb_dec (List.all_eq_true.mp (show cd_X12_cue.all (qw_okb prog_14_method_40_code) = true by decide +kernel) q h)
def my_X12_cueBy : qw_Y := (({ cls := "ShadowTheatreModel", name := "cueBy", desc := "(II)I" } : Jvm.MethodName), prog_14_method_39_code, 3, (Option.some Jvm.ClassFile.FieldType.int), 2, 0, 0)
def cd_X12_cueBy : List (Nat × Instr) := [(0, .iload_n 2), (1, .ifCond .ne 12), (4, .aload_n 0), (5, .getfield 34), (8, .iload_n 1), (9, .iaload), (10, .goto 9), (13, .aload_n 0), (14, .getfield 37), (17, .iload_n 1), (18, .iaload), (19, .ireturn)]
theorem co_X12_cueBy : ∀ q ∈ cd_X12_cueBy, qw_dec (qw_yb my_X12_cueBy) q.1 q.2 := fun q h => qw_okb_dec (List.all_eq_true.mp (show cd_X12_cueBy.all (qw_okb prog_14_method_39_code) = true by decide +kernel) q h)
def my_X12_cuesTold : qw_Y := (({ cls := "ShadowTheatreModel", name := "cuesTold", desc := "()I" } : Jvm.MethodName), prog_14_method_97_code, 3, (Option.some Jvm.ClassFile.FieldType.int), 0, 0, 0)
def cd_X12_cuesTold : List (Nat × Instr) := [(0, .iconst 0), (1, .istore_n 1), (2, .iconst 0), (3, .istore_n 2), (4, .iload_n 2), (5, .bipush 20), (7, .if_icmp .ge 27), (10, .iload_n 1), (11, .aload_n 0), (12, .getfield 34), (15, .iload_n 2), (16, .iaload), (17, .iconst (-1)), (18, .if_icmp .ne 7), (21, .iconst 0), (22, .goto 4), (25, .iconst 1), (26, .iadd), (27, .istore_n 1), (28, .iinc 2 1), (31, .goto (-27)), (34, .iload_n 1), (35, .ireturn)]
theorem co_X12_cuesTold : ∀ q ∈ cd_X12_cuesTold, qw_dec (qw_yb my_X12_cuesTold) q.1 q.2 := fun q h => qw_okb_dec (List.all_eq_true.mp (show cd_X12_cuesTold.all (qw_okb prog_14_method_97_code) = true by decide +kernel) q h)
def my_X12_cut : qw_Y := (({ cls := "ShadowTheatreModel", name := "cut", desc := "(II)I" } : Jvm.MethodName), prog_14_method_15_code, 2, (Option.some Jvm.ClassFile.FieldType.int), 2, 0, 0)
def cd_X12_cut : List (Nat × Instr) := [(0, .iload_n 0), (1, .ifCond .ne 8), (4, .iload_n 1), (5, .i2b), (6, .goto 14), (9, .iload_n 0), (10, .iconst 1), (11, .if_icmp .ne 8), (14, .iload_n 1), (15, .i2s), (16, .goto 4), (19, .iload_n 1), (20, .ireturn)]
theorem co_X12_cut : ∀ q ∈ cd_X12_cut, qw_dec (qw_yb my_X12_cut) q.1 q.2 := fun q h => qw_okb_dec (List.all_eq_true.mp (show cd_X12_cut.all (qw_okb prog_14_method_15_code) = true by decide +kernel) q h)
def my_X12_darkOf : qw_Y := (({ cls := "ShadowTheatreModel", name := "darkOf", desc := "(I)I" } : Jvm.MethodName), prog_14_method_59_code, 4, (Option.some Jvm.ClassFile.FieldType.int), 1, 3, 73)
def cd_X12_darkOf : List (Nat × Instr) := [(0, .iconst 0), (1, .istore_n 2), (2, .iconst 0), (3, .istore_n 3), (4, .iload_n 3), (5, .bipush 32), (7, .if_icmp .ge 26), (10, .iload_n 2), (11, .aload_n 0), (12, .iload_n 1), (13, .iload_n 3), (14, .invokevirtual 211), (17, .ifCond .ne 7), (20, .iconst 1), (21, .goto 4), (24, .iconst 0), (25, .iadd), (26, .istore_n 2), (27, .iinc 3 1), (30, .goto (-26)), (33, .iload_n 2), (34, .ireturn)]
theorem co_X12_darkOf : ∀ q ∈ cd_X12_darkOf, qw_dec (qw_yb my_X12_darkOf) q.1 q.2 := fun q h => qw_okb_dec (List.all_eq_true.mp (show cd_X12_darkOf.all (qw_okb prog_14_method_59_code) = true by decide +kernel) q h)
def my_X12_darkest : qw_Y := (({ cls := "ShadowTheatreModel", name := "darkest", desc := "()I" } : Jvm.MethodName), prog_14_method_69_code, 1, (Option.some Jvm.ClassFile.FieldType.int), 0, 5, 120)
def cd_X12_darkest : List (Nat × Instr) := [(0, .aload_n 0), (1, .invokevirtual 208), (4, .aload_n 0), (5, .invokevirtual 241), (8, .ireturn)]
theorem co_X12_darkest : ∀ q ∈ cd_X12_darkest, qw_dec (qw_yb my_X12_darkest) q.1 q.2 := fun q h => qw_okb_dec (List.all_eq_true.mp (show cd_X12_darkest.all (qw_okb prog_14_method_69_code) = true by decide +kernel) q h)
def my_X12_darkestNow : qw_Y := (({ cls := "ShadowTheatreModel", name := "darkestNow", desc := "()I" } : Jvm.MethodName), prog_14_method_68_code, 5, (Option.some Jvm.ClassFile.FieldType.int), 0, 4, 96)
def cd_X12_darkestNow : List (Nat × Instr) := [(0, .iconst (-1)), (1, .istore_n 1), (2, .iconst (-1)), (3, .istore_n 2), (4, .iconst 0), (5, .istore_n 3), (6, .iload_n 3), (7, .bipush 20), (9, .if_icmp .ge 47), (12, .aload_n 0), (13, .iload_n 3), (14, .invokevirtual 205), (17, .ifCond .eq 7), (20, .iconst (-1)), (21, .goto 8), (24, .aload_n 0), (25, .iload_n 3), (26, .invokevirtual 223), (29, .istore 4), (31, .iload 4), (33, .iload_n 2), (34, .if_icmp .le 7), (37, .iload_n 3), (38, .goto 4), (41, .iload_n 1), (42, .istore_n 1), (43, .iload 4), (45, .iload_n 2), (46, .invokestatic 174), (49, .istore_n 2), (50, .iinc 3 1), (53, .goto (-47)), (56, .iload_n 1), (57, .ireturn)]
theorem co_X12_darkestNow : ∀ q ∈ cd_X12_darkestNow, qw_dec (qw_yb my_X12_darkestNow) q.1 q.2 := fun q h => qw_okb_dec (List.all_eq_true.mp (show cd_X12_darkestNow.all (qw_okb prog_14_method_68_code) = true by decide +kernel) q h)
def my_X12_deepOf : qw_Y := (({ cls := "ShadowTheatreModel", name := "deepOf", desc := "(I)I" } : Jvm.MethodName), prog_14_method_86_code, 5, (Option.some Jvm.ClassFile.FieldType.int), 1, 4, 95)
def cd_X12_deepOf : List (Nat × Instr) := [(0, .aload_n 0), (1, .getfield 28), (4, .iconst 4), (5, .iload_n 1), (6, .imul), (7, .iaload), (8, .istore_n 2), (9, .iconst 0), (10, .istore_n 3), (11, .iconst 1), (12, .istore 4), (14, .iload 4), (16, .bipush 9), (18, .if_icmp .ge 37), (21, .aload_n 0), (22, .getfield 28), (25, .iconst 4), (26, .iload_n 1), (27, .imul), (28, .iload 4), (30, .iastore), (31, .iload_n 3), (32, .aload_n 0), (33, .invokevirtual 269), (36, .ifCond .eq 10), (39, .iconst 1), (40, .iload 4), (42, .ishl), (43, .goto 4), (46, .iconst 0), (47, .ior), (48, .istore_n 3), (49, .iinc 4 1), (52, .goto (-38)), (55, .aload_n 0), (56, .getfield 28), (59, .iconst 4), (60, .iload_n 1), (61, .imul), (62, .iload_n 2), (63, .iastore), (64, .iload_n 3), (65, .ireturn)]
theorem co_X12_deepOf : ∀ q ∈ cd_X12_deepOf, qw_dec (qw_yb my_X12_deepOf) q.1 q.2 := fun q h => qw_okb_dec (List.all_eq_true.mp (show cd_X12_deepOf.all (qw_okb prog_14_method_86_code) = true by decide +kernel) q h)
def my_X12_digest : qw_Y := (({ cls := "ShadowTheatreModel", name := "digest", desc := "()J" } : Jvm.MethodName), prog_14_method_102_code, 4, (Option.some Jvm.ClassFile.FieldType.long), 0, 8, 189)
def cd_X12_digest : List (Nat × Instr) := [(0, .ldc2_w 321), (3, .lstore_n 1), (4, .iconst 0), (5, .istore_n 3), (6, .iload_n 3), (7, .bipush 8), (9, .if_icmp .ge 22), (12, .ldc2_w 147), (15, .lload_n 1), (16, .lmul), (17, .aload_n 0), (18, .iload_n 3), (19, .invokevirtual 323), (22, .i2l), (23, .ladd), (24, .lstore_n 1), (25, .iinc 3 1), (28, .goto (-22)), (31, .iconst 0), (32, .istore_n 3), (33, .iload_n 3), (34, .iconst 3), (35, .if_icmp .ge 22), (38, .ldc2_w 147), (41, .lload_n 1), (42, .lmul), (43, .aload_n 0), (44, .iload_n 3), (45, .invokevirtual 142), (48, .i2l), (49, .ladd), (50, .lstore_n 1), (51, .iinc 3 1), (54, .goto (-21)), (57, .aload_n 0), (58, .invokevirtual 195), (61, .iconst 0), (62, .istore_n 3), (63, .iload_n 3), (64, .bipush 20), (66, .if_icmp .ge 63), (69, .ldc2_w 147), (72, .lload_n 1), (73, .lmul), (74, .aload_n 0), (75, .getfield 34), (78, .iload_n 3), (79, .iaload), (80, .i2l), (81, .ladd), (82, .lstore_n 1), (83, .ldc2_w 147), (86, .lload_n 1), (87, .lmul), (88, .aload_n 0), (89, .getfield 37), (92, .iload_n 3), (93, .iaload), (94, .i2l), (95, .ladd), (96, .lstore_n 1), (97, .ldc2_w 147), (100, .lload_n 1), (101, .lmul), (102, .aload_n 0), (103, .iload_n 3), (104, .invokevirtual 220), (107, .i2l), (108, .ladd), (109, .lstore_n 1), (110, .ldc2_w 147), (113, .lload_n 1), (114, .lmul), (115, .aload_n 0), (116, .iload_n 3), (117, .invokevirtual 223), (120, .i2l), (121, .ladd), (122, .lstore_n 1), (123, .iinc 3 1), (126, .goto (-63)), (129, .iconst 0), (130, .istore_n 3), (131, .iload_n 3), (132, .bipush 32), (134, .if_icmp .ge 82), (137, .ldc2_w 147), (140, .lload_n 1), (141, .lmul), (142, .aload_n 0), (143, .getfield 40), (146, .iload_n 3), (147, .iaload), (148, .i2l), (149, .ladd), (150, .lstore_n 1), (151, .ldc2_w 147), (154, .lload_n 1), (155, .lmul), (156, .aload_n 0), (157, .iconst 0), (158, .iload_n 3), (159, .invokevirtual 211), (162, .i2l), (163, .ladd), (164, .lstore_n 1), (165, .ldc2_w 147), (168, .lload_n 1), (169, .lmul), (170, .aload_n 0), (171, .bipush 9), (173, .iload_n 3), (174, .invokevirtual 211), (177, .i2l), (178, .ladd), (179, .lstore_n 1), (180, .ldc2_w 147), (183, .lload_n 1), (184, .lmul), (185, .aload_n 0), (186, .bipush 19), (188, .iload_n 3), (189, .invokevirtual 211), (192, .i2l), (193, .ladd), (194, .lstore_n 1), (195, .ldc2_w 147), (198, .lload_n 1), (199, .lmul), (200, .aload_n 0), (201, .bipush 19), (203, .iload_n 3), (204, .invokevirtual 214), (207, .i2l), (208, .ladd), (209, .lstore_n 1), (210, .iinc 3 1), (213, .goto (-82)), (216, .iconst 0), (217, .istore_n 3), (218, .iload_n 3), (219, .aload_n 0), (220, .getfield 109), (223, .if_icmp .ge 16), (226, .aload_n 0), (227, .lload_n 1), (228, .iload_n 3), (229, .invokevirtual 326), (232, .lstore_n 1), (233, .iinc 3 1), (236, .goto (-18)), (239, .aload_n 0), (240, .invokevirtual 195), (243, .ldc2_w 147), (246, .lload_n 1), (247, .lmul), (248, .aload_n 0), (249, .iconst 0), (250, .invokevirtual 232), (253, .i2l), (254, .ladd), (255, .lstore_n 1), (256, .ldc2_w 147), (259, .lload_n 1), (260, .lmul), (261, .aload_n 0), (262, .iconst 1), (263, .invokevirtual 232), (266, .i2l), (267, .ladd), (268, .lstore_n 1), (269, .iconst 0), (270, .istore_n 3), (271, .iload_n 3), (272, .iconst 3), (273, .if_icmp .ge 22), (276, .ldc2_w 147), (279, .lload_n 1), (280, .lmul), (281, .aload_n 0), (282, .iload_n 3), (283, .invokevirtual 238), (286, .i2l), (287, .ladd), (288, .lstore_n 1), (289, .iinc 3 1), (292, .goto (-21)), (295, .ldc2_w 147), (298, .lload_n 1), (299, .lmul), (300, .aload_n 0), (301, .invokevirtual 241), (304, .i2l), (305, .ladd), (306, .lstore_n 1), (307, .aload_n 0), (308, .aload_n 0), (309, .aload_n 0), (310, .lload_n 1), (311, .iconst 0), (312, .invokevirtual 330), (315, .bipush 9), (317, .invokevirtual 330), (320, .bipush 19), (322, .invokevirtual 330), (325, .lstore_n 1), (326, .ldc2_w 147), (329, .lload_n 1), (330, .lmul), (331, .aload_n 0), (332, .iconst (-1)), (333, .invokevirtual 255), (336, .i2l), (337, .ladd), (338, .lstore_n 1), (339, .ldc2_w 147), (342, .lload_n 1), (343, .lmul), (344, .aload_n 0), (345, .iconst 0), (346, .invokevirtual 255), (349, .i2l), (350, .ladd), (351, .lstore_n 1), (352, .ldc2_w 147), (355, .lload_n 1), (356, .lmul), (357, .aload_n 0), (358, .invokevirtual 273), (361, .i2l), (362, .ladd), (363, .lstore_n 1), (364, .ldc2_w 147), (367, .lload_n 1), (368, .lmul), (369, .aload_n 0), (370, .iconst 5), (371, .iconst 5), (372, .bipush 9), (374, .iconst 0), (375, .invokevirtual 294), (378, .ladd), (379, .lstore_n 1), (380, .ldc2_w 147), (383, .lload_n 1), (384, .lmul), (385, .aload_n 0), (386, .iconst 5), (387, .iconst 5), (388, .bipush 9), (390, .iconst 1), (391, .invokevirtual 294), (394, .ladd), (395, .lstore_n 1), (396, .ldc2_w 147), (399, .lload_n 1), (400, .lmul), (401, .aload_n 0), (402, .bipush 7), (404, .bipush 15), (406, .iconst 0), (407, .invokevirtual 311), (410, .i2l), (411, .ladd), (412, .lstore_n 1), (413, .ldc2_w 147), (416, .lload_n 1), (417, .lmul), (418, .aload_n 0), (419, .bipush 7), (421, .bipush 15), (423, .iconst 1), (424, .invokevirtual 311), (427, .i2l), (428, .ladd), (429, .lreturn)]
theorem co_X12_digest : ∀ q ∈ cd_X12_digest, qw_dec (qw_yb my_X12_digest) q.1 q.2 := fun q h => qw_okb_dec (List.all_eq_true.mp (show cd_X12_digest.all (qw_okb prog_14_method_102_code) = true by decide +kernel) q h)
def my_X12_falseOf : qw_Y := (({ cls := "ShadowTheatreModel", name := "falseOf", desc := "(I)I" } : Jvm.MethodName), prog_14_method_58_code, 4, (Option.some Jvm.ClassFile.FieldType.int), 1, 3, 73)
def cd_X12_falseOf : List (Nat × Instr) := [(0, .iconst 0), (1, .istore_n 2), (2, .iconst 0), (3, .istore_n 3), (4, .iload_n 3), (5, .bipush 32), (7, .if_icmp .ge 42), (10, .iload_n 2), (11, .aload_n 0), (12, .getfield 40), (15, .iload_n 3), (16, .iaload), (17, .iconst (-1)), (18, .if_icmp .eq 22), (21, .aload_n 0), (22, .getfield 40), (25, .iload_n 3), (26, .iaload), (27, .aload_n 0), (28, .iload_n 1), (29, .iload_n 3), (30, .invokevirtual 211), (33, .if_icmp .eq 7), (36, .iconst 1), (37, .goto 4), (40, .iconst 0), (41, .iadd), (42, .istore_n 2), (43, .iinc 3 1), (46, .goto (-42)), (49, .iload_n 2), (50, .ireturn)]
theorem co_X12_falseOf : ∀ q ∈ cd_X12_falseOf, qw_dec (qw_yb my_X12_falseOf) q.1 q.2 := fun q h => qw_okb_dec (List.all_eq_true.mp (show cd_X12_falseOf.all (qw_okb prog_14_method_58_code) = true by decide +kernel) q h)
def my_X12_fault : qw_Y := (({ cls := "ShadowTheatreModel", name := "fault", desc := "(I)I" } : Jvm.MethodName), prog_14_method_33_code, 2, (Option.some Jvm.ClassFile.FieldType.int), 1, 5, 117)
def cd_X12_fault : List (Nat × Instr) := [(0, .iload_n 1), (1, .invokestatic 98), (4, .ifCond .eq 11), (7, .aload_n 0), (8, .iload_n 1), (9, .invokevirtual 142), (12, .goto 5), (15, .bipush (-2)), (17, .ireturn)]
theorem co_X12_fault : ∀ q ∈ cd_X12_fault, qw_dec (qw_yb my_X12_fault) q.1 q.2 := fun q h => qw_okb_dec (List.all_eq_true.mp (show cd_X12_fault.all (qw_okb prog_14_method_33_code) = true by decide +kernel) q h)
def my_X12_figure : qw_Y := (({ cls := "ShadowTheatreModel", name := "figure", desc := "(II)I" } : Jvm.MethodName), prog_14_method_38_code, 3, (Option.some Jvm.ClassFile.FieldType.int), 2, 4, 96)
def cd_X12_figure : List (Nat × Instr) := [(0, .aload_n 0), (1, .invokevirtual 132), (4, .pop), (5, .aload_n 0), (6, .iload_n 1), (7, .invokevirtual 149), (10, .ifCond .eq 24), (13, .iload_n 2), (14, .i2l), (15, .lconst 0), (16, .ldc2_w 152), (19, .invokestatic 70), (22, .ifCond .eq 12), (25, .aload_n 0), (26, .iload_n 1), (27, .iload_n 2), (28, .invokevirtual 154), (31, .goto 5), (34, .bipush (-2)), (36, .ireturn)]
theorem co_X12_figure : ∀ q ∈ cd_X12_figure, qw_dec (qw_yb my_X12_figure) q.1 q.2 := fun q h => qw_okb_dec (List.all_eq_true.mp (show cd_X12_figure.all (qw_okb prog_14_method_38_code) = true by decide +kernel) q h)
def my_X12_figureBy : qw_Y := (({ cls := "ShadowTheatreModel", name := "figureBy", desc := "(II)I" } : Jvm.MethodName), prog_14_method_37_code, 3, (Option.some Jvm.ClassFile.FieldType.int), 2, 0, 0)
def cd_X12_figureBy : List (Nat × Instr) := [(0, .iload_n 2), (1, .iconst 4), (2, .if_icmp .ge 16), (5, .aload_n 0), (6, .getfield 28), (9, .iconst 4), (10, .iload_n 1), (11, .imul), (12, .iload_n 2), (13, .iadd), (14, .iaload), (15, .goto 35), (18, .iload_n 2), (19, .iconst 4), (20, .isub), (21, .aload_n 0), (22, .getfield 28), (25, .iconst 4), (26, .iload_n 1), (27, .imul), (28, .iconst 3), (29, .iadd), (30, .iaload), (31, .if_icmp .ge 18), (34, .aload_n 0), (35, .getfield 31), (38, .iload_n 1), (39, .iaload), (40, .iload_n 2), (41, .iconst 4), (42, .isub), (43, .ishr), (44, .iconst 1), (45, .iand), (46, .goto 4), (49, .iconst (-1)), (50, .ireturn)]
theorem co_X12_figureBy : ∀ q ∈ cd_X12_figureBy, qw_dec (qw_yb my_X12_figureBy) q.1 q.2 := fun q h => qw_okb_dec (List.all_eq_true.mp (show cd_X12_figureBy.all (qw_okb prog_14_method_37_code) = true by decide +kernel) q h)
def my_X12_figureOf : qw_Y := (({ cls := "ShadowTheatreModel", name := "figureOf", desc := "(III)I" } : Jvm.MethodName), prog_14_method_23_code, 3, (Option.some Jvm.ClassFile.FieldType.int), 3, 1, 25)
def cd_X12_figureOf : List (Nat × Instr) := [(0, .iload_n 0), (1, .i2l), (2, .bipush 48), (4, .iload_n 1), (5, .iadd), (6, .i2l), (7, .bipush 48), (9, .iload_n 2), (10, .iadd), (11, .i2l), (12, .invokestatic 70), (15, .ifCond .eq 10), (18, .iload_n 0), (19, .bipush 48), (21, .isub), (22, .goto 5), (25, .bipush (-9)), (27, .ireturn)]
theorem co_X12_figureOf : ∀ q ∈ cd_X12_figureOf, qw_dec (qw_yb my_X12_figureOf) q.1 q.2 := fun q h => qw_okb_dec (List.all_eq_true.mp (show cd_X12_figureOf.all (qw_okb prog_14_method_23_code) = true by decide +kernel) q h)
def my_X12_find : qw_Y := (({ cls := "ShadowTheatreModel", name := "find", desc := "()V" } : Jvm.MethodName), prog_14_method_50_code, 1, (Option.none : Option Jvm.ClassFile.FieldType), 0, 4, 96)
def cd_X12_find : List (Nat × Instr) := [(0, .aload_n 0), (1, .invokevirtual 132), (4, .pop), (5, .aload_n 0), (6, .invokevirtual 136), (9, .pop), (10, .aload_n 0), (11, .invokevirtual 139), (14, .pop), (15, .aload_n 0), (16, .invokevirtual 195), (19, .return_)]
theorem co_X12_find : ∀ q ∈ cd_X12_find, qw_dec (qw_yb my_X12_find) q.1 q.2 := fun q h => qw_okb_dec (List.all_eq_true.mp (show cd_X12_find.all (qw_okb prog_14_method_50_code) = true by decide +kernel) q h)
def my_X12_finds : qw_Y := (({ cls := "ShadowTheatreModel", name := "finds", desc := "(I)I" } : Jvm.MethodName), prog_14_method_10_code, 2, (Option.some Jvm.ClassFile.FieldType.int), 1, 0, 0)
def cd_X12_finds : List (Nat × Instr) := [(0, .aload_n 0), (1, .iload_n 1), (2, .putfield 74), (5, .bipush (-10)), (7, .iload_n 1), (8, .isub), (9, .ireturn)]
theorem co_X12_finds : ∀ q ∈ cd_X12_finds, qw_dec (qw_yb my_X12_finds) q.1 q.2 := fun q h => qw_okb_dec (List.all_eq_true.mp (show cd_X12_finds.all (qw_okb prog_14_method_10_code) = true by decide +kernel) q h)
def my_X12_flicker : qw_Y := (({ cls := "ShadowTheatreModel", name := "flicker", desc := "(I)I" } : Jvm.MethodName), prog_14_method_43_code, 2, (Option.some Jvm.ClassFile.FieldType.int), 1, 2, 45)
def cd_X12_flicker : List (Nat × Instr) := [(0, .iload_n 1), (1, .invokestatic 157), (4, .ifCond .ne 6), (7, .bipush (-2)), (9, .ireturn), (10, .aload_n 0), (11, .getfield 169), (14, .bipush 8), (16, .if_icmp .ne 6), (19, .bipush (-4)), (21, .ireturn), (22, .aload_n 0), (23, .getfield 43), (26, .aload_n 0), (27, .getfield 169), (30, .iload_n 1), (31, .iastore), (32, .aload_n 0), (33, .dup), (34, .getfield 169), (37, .iconst 1), (38, .iadd), (39, .putfield 169), (42, .aload_n 0), (43, .getfield 169), (46, .ireturn)]
theorem co_X12_flicker : ∀ q ∈ cd_X12_flicker, qw_dec (qw_yb my_X12_flicker) q.1 q.2 := fun q h => qw_okb_dec (List.all_eq_true.mp (show cd_X12_flicker.all (qw_okb prog_14_method_43_code) = true by decide +kernel) q h)
def my_X12_forget : qw_Y := (({ cls := "ShadowTheatreModel", name := "forget", desc := "()I" } : Jvm.MethodName), prog_14_method_81_code, 2, (Option.some Jvm.ClassFile.FieldType.int), 0, 0, 0)
def cd_X12_forget : List (Nat × Instr) := [(0, .aload_n 0), (1, .getfield 266), (4, .istore_n 1), (5, .aload_n 0), (6, .iconst 0), (7, .putfield 266), (10, .iload_n 1), (11, .ireturn)]
theorem co_X12_forget : ∀ q ∈ cd_X12_forget, qw_dec (qw_yb my_X12_forget) q.1 q.2 := fun q h => qw_okb_dec (List.all_eq_true.mp (show cd_X12_forget.all (qw_okb prog_14_method_81_code) = true by decide +kernel) q h)
def my_X12_get : qw_Y := (({ cls := "ShadowTheatreModel", name := "get", desc := "(III)I" } : Jvm.MethodName), prog_14_method_17_code, 4, (Option.some Jvm.ClassFile.FieldType.int), 3, 2, 48)
def cd_X12_get : List (Nat × Instr) := [(0, .iload_n 1), (1, .invokestatic 79), (4, .ifCond .eq 25), (7, .iload_n 2), (8, .i2l), (9, .lconst 0), (10, .ldc2_w 83), (13, .invokestatic 70), (16, .ifCond .eq 13), (19, .aload_n 0), (20, .iload_n 1), (21, .iload_n 2), (22, .iload_n 3), (23, .invokevirtual 89), (26, .ifCond .eq 6), (29, .ldc 97), (31, .ireturn), (32, .aload_n 0), (33, .getfield 16), (36, .bipush 60), (38, .iload_n 1), (39, .imul), (40, .iload_n 3), (41, .iadd), (42, .iaload), (43, .ireturn)]
theorem co_X12_get : ∀ q ∈ cd_X12_get, qw_dec (qw_yb my_X12_get) q.1 q.2 := fun q h => qw_okb_dec (List.all_eq_true.mp (show cd_X12_get.all (qw_okb prog_14_method_17_code) = true by decide +kernel) q h)
def my_X12_goes : qw_Y := (({ cls := "ShadowTheatreModel", name := "goes", desc := "(II)V" } : Jvm.MethodName), prog_14_method_47_code, 3, (Option.none : Option Jvm.ClassFile.FieldType), 2, 1, 21)
def cd_X12_goes : List (Nat × Instr) := [(0, .iload_n 2), (1, .ifCond .ne 24), (4, .aload_n 0), (5, .getfield 55), (8, .iload_n 1), (9, .aload_n 0), (10, .getfield 55), (13, .iload_n 1), (14, .iaload), (15, .iconst 1), (16, .isub), (17, .iconst 0), (18, .invokestatic 174), (21, .iastore), (22, .goto 75), (25, .iload_n 2), (26, .iconst 1), (27, .if_icmp .ne 25), (30, .aload_n 0), (31, .getfield 55), (34, .iload_n 1), (35, .aload_n 0), (36, .getfield 55), (39, .iload_n 1), (40, .iaload), (41, .iconst 1), (42, .iadd), (43, .bipush 31), (45, .invokestatic 177), (48, .iastore), (49, .goto 48), (52, .iload_n 2), (53, .iconst 2), (54, .if_icmp .ne 24), (57, .aload_n 0), (58, .getfield 52), (61, .iload_n 1), (62, .aload_n 0), (63, .getfield 52), (66, .iload_n 1), (67, .iaload), (68, .iconst 1), (69, .isub), (70, .iconst 1), (71, .invokestatic 174), (74, .iastore), (75, .goto 22), (78, .aload_n 0), (79, .getfield 52), (82, .iload_n 1), (83, .aload_n 0), (84, .getfield 52), (87, .iload_n 1), (88, .iaload), (89, .iconst 1), (90, .iadd), (91, .bipush 8), (93, .invokestatic 177), (96, .iastore), (97, .return_)]
theorem co_X12_goes : ∀ q ∈ cd_X12_goes, qw_dec (qw_yb my_X12_goes) q.1 q.2 := fun q h => qw_okb_dec (List.all_eq_true.mp (show cd_X12_goes.all (qw_okb prog_14_method_47_code) = true by decide +kernel) q h)
def my_X12_greater : qw_Y := (({ cls := "ShadowTheatreModel", name := "greater", desc := "(II)I" } : Jvm.MethodName), prog_14_method_8_code, 2, (Option.some Jvm.ClassFile.FieldType.int), 2, 0, 0)
def cd_X12_greater : List (Nat × Instr) := [(0, .iload_n 0), (1, .iload_n 1), (2, .if_icmp .le 7), (5, .iload_n 0), (6, .goto 4), (9, .iload_n 1), (10, .ireturn)]
theorem co_X12_greater : ∀ q ∈ cd_X12_greater, qw_dec (qw_yb my_X12_greater) q.1 q.2 := fun q h => qw_okb_dec (List.all_eq_true.mp (show cd_X12_greater.all (qw_okb prog_14_method_8_code) = true by decide +kernel) q h)
def my_X12_hang : qw_Y := (({ cls := "ShadowTheatreModel", name := "hang", desc := "(III)I" } : Jvm.MethodName), prog_14_method_71_code, 4, (Option.some Jvm.ClassFile.FieldType.int), 3, 5, 125)
def cd_X12_hang : List (Nat × Instr) := [(0, .aload_n 0), (1, .invokevirtual 208), (4, .aload_n 0), (5, .iload_n 1), (6, .invokevirtual 149), (9, .ifCond .eq 32), (12, .iload_n 2), (13, .invokestatic 157), (16, .ifCond .eq 25), (19, .iload_n 3), (20, .i2l), (21, .lconst 0), (22, .ldc2_w 83), (25, .invokestatic 70), (28, .ifCond .eq 13), (31, .aload_n 0), (32, .iload_n 1), (33, .iload_n 2), (34, .iload_n 3), (35, .invokevirtual 244), (38, .goto 5), (41, .bipush (-2)), (43, .ireturn)]
theorem co_X12_hang : ∀ q ∈ cd_X12_hang, qw_dec (qw_yb my_X12_hang) q.1 q.2 := fun q h => qw_okb_dec (List.all_eq_true.mp (show cd_X12_hang.all (qw_okb prog_14_method_71_code) = true by decide +kernel) q h)
def my_X12_hangOf : qw_Y := (({ cls := "ShadowTheatreModel", name := "hangOf", desc := "(III)I" } : Jvm.MethodName), prog_14_method_70_code, 10, (Option.some Jvm.ClassFile.FieldType.int), 3, 4, 96)
def cd_X12_hangOf : List (Nat × Instr) := [(0, .aload_n 0), (1, .getfield 28), (4, .iconst 4), (5, .iload_n 1), (6, .imul), (7, .iaload), (8, .istore 4), (10, .aload_n 0), (11, .getfield 28), (14, .iconst 4), (15, .iload_n 1), (16, .imul), (17, .iconst 1), (18, .iadd), (19, .iaload), (20, .istore 5), (22, .iconst (-1)), (23, .istore 6), (25, .bipush 99), (27, .istore 7), (29, .iconst 0), (30, .istore 8), (32, .iload 8), (34, .sipush 256), (37, .if_icmp .ge 75), (40, .aload_n 0), (41, .getfield 28), (44, .iconst 4), (45, .iload_n 1), (46, .imul), (47, .iconst 1), (48, .iload 8), (50, .bipush 32), (52, .idiv), (53, .iadd), (54, .iastore), (55, .aload_n 0), (56, .getfield 28), (59, .iconst 4), (60, .iload_n 1), (61, .imul), (62, .iconst 1), (63, .iadd), (64, .iload 8), (66, .bipush 32), (68, .irem), (69, .iastore), (70, .aload_n 0), (71, .invokevirtual 195), (74, .aload_n 0), (75, .iload_n 2), (76, .invokevirtual 220), (79, .istore 9), (81, .iload 9), (83, .iload 7), (85, .if_icmp .ge 8), (88, .iload 8), (90, .goto 5), (93, .iload 6), (95, .istore 6), (97, .iload 9), (99, .iload 7), (101, .invokestatic 177), (104, .istore 7), (106, .iinc 8 1), (109, .goto (-77)), (112, .aload_n 0), (113, .getfield 28), (116, .iconst 4), (117, .iload_n 1), (118, .imul), (119, .iload 4), (121, .iastore), (122, .aload_n 0), (123, .getfield 28), (126, .iconst 4), (127, .iload_n 1), (128, .imul), (129, .iconst 1), (130, .iadd), (131, .iload 5), (133, .iastore), (134, .iload_n 3), (135, .ifCond .ne 13), (138, .iconst 1), (139, .iload 6), (141, .bipush 32), (143, .idiv), (144, .iadd), (145, .goto 18), (148, .iload_n 3), (149, .iconst 1), (150, .if_icmp .ne 11), (153, .iload 6), (155, .bipush 32), (157, .irem), (158, .goto 5), (161, .iload 7), (163, .ireturn)]
theorem co_X12_hangOf : ∀ q ∈ cd_X12_hangOf, qw_dec (qw_yb my_X12_hangOf) q.1 q.2 := fun q h => qw_okb_dec (List.all_eq_true.mp (show cd_X12_hangOf.all (qw_okb prog_14_method_70_code) = true by decide +kernel) q h)
def my_X12_in : qw_Y := (({ cls := "ShadowTheatreModel", name := "in", desc := "(JJJ)Z" } : Jvm.MethodName), prog_14_method_3_code, 6, (Option.some Jvm.ClassFile.FieldType.boolean), 3, 0, 0)
def cd_X12_in : List (Nat × Instr) := [(0, .lload_n 0), (1, .lload_n 2), (2, .lcmp), (3, .ifCond .lt 14), (6, .lload_n 0), (7, .lload 4), (9, .lcmp), (10, .ifCond .gt 7), (13, .iconst 1), (14, .goto 4), (17, .iconst 0), (18, .ireturn)]
theorem co_X12_in : ∀ q ∈ cd_X12_in, qw_dec (qw_yb my_X12_in) q.1 q.2 := fun q h => qw_okb_dec (List.all_eq_true.mp (show cd_X12_in.all (qw_okb prog_14_method_3_code) = true by decide +kernel) q h)
def my_X12_isCell : qw_Y := (({ cls := "ShadowTheatreModel", name := "isCell", desc := "(I)Z" } : Jvm.MethodName), prog_14_method_36_code, 1, (Option.some Jvm.ClassFile.FieldType.boolean), 1, 1, 25)
def cd_X12_isCell : List (Nat × Instr) := [(0, .iload_n 0), (1, .i2l), (2, .lconst 0), (3, .ldc2_w 147), (6, .invokestatic 70), (9, .ireturn)]
theorem co_X12_isCell : ∀ q ∈ cd_X12_isCell, qw_dec (qw_yb my_X12_isCell) q.1 q.2 := fun q h => qw_okb_dec (List.all_eq_true.mp (show cd_X12_isCell.all (qw_okb prog_14_method_36_code) = true by decide +kernel) q h)
def my_X12_isFigure : qw_Y := (({ cls := "ShadowTheatreModel", name := "isFigure", desc := "(I)Z" } : Jvm.MethodName), prog_14_method_34_code, 2, (Option.some Jvm.ClassFile.FieldType.boolean), 1, 1, 25)
def cd_X12_isFigure : List (Nat × Instr) := [(0, .iload_n 1), (1, .i2l), (2, .lconst 0), (3, .aload_n 0), (4, .getfield 109), (7, .iconst 1), (8, .isub), (9, .i2l), (10, .invokestatic 70), (13, .ireturn)]
theorem co_X12_isFigure : ∀ q ∈ cd_X12_isFigure, qw_dec (qw_yb my_X12_isFigure) q.1 q.2 := fun q h => qw_okb_dec (List.all_eq_true.mp (show cd_X12_isFigure.all (qw_okb prog_14_method_34_code) = true by decide +kernel) q h)
def my_X12_isIn : qw_Y := (({ cls := "ShadowTheatreModel", name := "isIn", desc := "(II)Z" } : Jvm.MethodName), prog_14_method_6_code, 2, (Option.some Jvm.ClassFile.FieldType.boolean), 2, 0, 0)
def cd_X12_isIn : List (Nat × Instr) := [(0, .iload_n 0), (1, .iload_n 1), (2, .ishr), (3, .iconst 1), (4, .iand), (5, .iconst 1), (6, .if_icmp .ne 7), (9, .iconst 1), (10, .goto 4), (13, .iconst 0), (14, .ireturn)]
theorem co_X12_isIn : ∀ q ∈ cd_X12_isIn, qw_dec (qw_yb my_X12_isIn) q.1 q.2 := fun q h => qw_okb_dec (List.all_eq_true.mp (show cd_X12_isIn.all (qw_okb prog_14_method_6_code) = true by decide +kernel) q h)
def my_X12_isOut : qw_Y := (({ cls := "ShadowTheatreModel", name := "isOut", desc := "(I)Z" } : Jvm.MethodName), prog_14_method_46_code, 4, (Option.some Jvm.ClassFile.FieldType.boolean), 1, 0, 0)
def cd_X12_isOut : List (Nat × Instr) := [(0, .iconst 0), (1, .istore_n 2), (2, .iconst 0), (3, .istore_n 3), (4, .iload_n 3), (5, .aload_n 0), (6, .getfield 169), (9, .if_icmp .ge 29), (12, .iload_n 2), (13, .ifCond .ne 13), (16, .aload_n 0), (17, .getfield 43), (20, .iload_n 3), (21, .iaload), (22, .iload_n 1), (23, .if_icmp .ne 7), (26, .iconst 1), (27, .goto 4), (30, .iconst 0), (31, .istore_n 2), (32, .iinc 3 1), (35, .goto (-31)), (38, .iload_n 2), (39, .ireturn)]
theorem co_X12_isOut : ∀ q ∈ cd_X12_isOut, qw_dec (qw_yb my_X12_isOut) q.1 q.2 := fun q h => qw_okb_dec (List.all_eq_true.mp (show cd_X12_isOut.all (qw_okb prog_14_method_46_code) = true by decide +kernel) q h)
def my_X12_isOver : qw_Y := (({ cls := "ShadowTheatreModel", name := "isOver", desc := "(III)Z" } : Jvm.MethodName), prog_14_method_51_code, 5, (Option.some Jvm.ClassFile.FieldType.boolean), 3, 1, 25)
def cd_X12_isOver : List (Nat × Instr) := [(0, .bipush 8), (2, .aload_n 0), (3, .getfield 64), (6, .imul), (7, .iconst 4), (8, .iadd), (9, .aload_n 0), (10, .getfield 46), (13, .bipush 8), (15, .iload_n 1), (16, .imul), (17, .iload_n 2), (18, .iadd), (19, .iaload), (20, .iload_n 3), (21, .aload_n 0), (22, .getfield 64), (25, .isub), (26, .imul), (27, .iadd), (28, .bipush 8), (30, .idiv), (31, .aload_n 0), (32, .getfield 49), (35, .bipush 8), (37, .iload_n 1), (38, .imul), (39, .iload_n 2), (40, .iadd), (41, .iaload), (42, .isub), (43, .istore 4), (45, .aload_n 0), (46, .getfield 198), (49, .iload_n 2), (50, .invokestatic 183), (53, .ifCond .ne 44), (56, .iload 4), (58, .i2l), (59, .lconst 0), (60, .aload_n 0), (61, .getfield 28), (64, .iconst 4), (65, .iload_n 2), (66, .imul), (67, .iconst 3), (68, .iadd), (69, .iaload), (70, .iconst 1), (71, .isub), (72, .i2l), (73, .invokestatic 70), (76, .ifCond .eq 21), (79, .aload_n 0), (80, .getfield 31), (83, .iload_n 2), (84, .iaload), (85, .iload 4), (87, .invokestatic 183), (90, .ifCond .eq 7), (93, .iconst 1), (94, .goto 4), (97, .iconst 0), (98, .ireturn)]
theorem co_X12_isOver : ∀ q ∈ cd_X12_isOver, qw_dec (qw_yb my_X12_isOver) q.1 q.2 := fun q h => qw_okb_dec (List.all_eq_true.mp (show cd_X12_isOver.all (qw_okb prog_14_method_51_code) = true by decide +kernel) q h)
def my_X12_isSeen : qw_Y := (({ cls := "ShadowTheatreModel", name := "isSeen", desc := "()Z" } : Jvm.MethodName), prog_14_method_82_code, 3, (Option.some Jvm.ClassFile.FieldType.boolean), 0, 3, 73)
def cd_X12_isSeen : List (Nat × Instr) := [(0, .aload_n 0), (1, .invokevirtual 195), (4, .iconst 1), (5, .istore_n 1), (6, .iconst 0), (7, .istore_n 2), (8, .iload_n 2), (9, .aload_n 0), (10, .getfield 266), (13, .if_icmp .ge 54), (16, .iload_n 1), (17, .ifCond .eq 42), (20, .aload_n 0), (21, .aload_n 0), (22, .getfield 58), (25, .iconst 3), (26, .iload_n 2), (27, .imul), (28, .iaload), (29, .aload_n 0), (30, .getfield 58), (33, .iconst 3), (34, .iload_n 2), (35, .imul), (36, .iconst 1), (37, .iadd), (38, .iaload), (39, .invokevirtual 211), (42, .aload_n 0), (43, .getfield 58), (46, .iconst 3), (47, .iload_n 2), (48, .imul), (49, .iconst 2), (50, .iadd), (51, .iaload), (52, .if_icmp .ne 7), (55, .iconst 1), (56, .goto 4), (59, .iconst 0), (60, .istore_n 1), (61, .iinc 2 1), (64, .goto (-56)), (67, .iload_n 1), (68, .ireturn)]
theorem co_X12_isSeen : ∀ q ∈ cd_X12_isSeen, qw_dec (qw_yb my_X12_isSeen) q.1 q.2 := fun q h => qw_okb_dec (List.all_eq_true.mp (show cd_X12_isSeen.all (qw_okb prog_14_method_82_code) = true by decide +kernel) q h)
def my_X12_isSheet : qw_Y := (({ cls := "ShadowTheatreModel", name := "isSheet", desc := "(I)Z" } : Jvm.MethodName), prog_14_method_11_code, 1, (Option.some Jvm.ClassFile.FieldType.boolean), 1, 1, 25)
def cd_X12_isSheet : List (Nat × Instr) := [(0, .iload_n 0), (1, .i2l), (2, .lconst 0), (3, .ldc2_w 77), (6, .invokestatic 70), (9, .ireturn)]
theorem co_X12_isSheet : ∀ q ∈ cd_X12_isSheet, qw_dec (qw_yb my_X12_isSheet) q.1 q.2 := fun q h => qw_okb_dec (List.all_eq_true.mp (show cd_X12_isSheet.all (qw_okb prog_14_method_11_code) = true by decide +kernel) q h)
def my_X12_isShown : qw_Y := (({ cls := "ShadowTheatreModel", name := "isShown", desc := "(I)Z" } : Jvm.MethodName), prog_14_method_62_code, 2, (Option.some Jvm.ClassFile.FieldType.boolean), 1, 4, 96)
def cd_X12_isShown : List (Nat × Instr) := [(0, .aload_n 0), (1, .invokevirtual 226), (4, .ifCond .le 15), (7, .aload_n 0), (8, .iload_n 1), (9, .invokevirtual 220), (12, .ifCond .ne 7), (15, .iconst 1), (16, .goto 4), (19, .iconst 0), (20, .ireturn)]
theorem co_X12_isShown : ∀ q ∈ cd_X12_isShown, qw_dec (qw_yb my_X12_isShown) q.1 q.2 := fun q h => qw_okb_dec (List.all_eq_true.mp (show cd_X12_isShown.all (qw_okb prog_14_method_62_code) = true by decide +kernel) q h)
def my_X12_isShownBy : qw_Y := (({ cls := "ShadowTheatreModel", name := "isShownBy", desc := "(II)Z" } : Jvm.MethodName), prog_14_method_74_code, 3, (Option.some Jvm.ClassFile.FieldType.boolean), 2, 5, 117)
def cd_X12_isShownBy : List (Nat × Instr) := [(0, .aload_n 0), (1, .invokevirtual 195), (4, .iload_n 1), (5, .iconst (-1)), (6, .if_icmp .eq 13), (9, .aload_n 0), (10, .iload_n 1), (11, .iconst 4), (12, .idiv), (13, .iload_n 1), (14, .iconst 4), (15, .irem), (16, .invokevirtual 187), (19, .iload_n 2), (20, .iconst (-1)), (21, .if_icmp .eq 13), (24, .aload_n 0), (25, .iload_n 2), (26, .iconst 4), (27, .idiv), (28, .iload_n 2), (29, .iconst 4), (30, .irem), (31, .invokevirtual 187), (34, .aload_n 0), (35, .bipush 19), (37, .invokevirtual 191), (40, .aload_n 0), (41, .bipush 19), (43, .invokevirtual 229), (46, .ireturn)]
theorem co_X12_isShownBy : ∀ q ∈ cd_X12_isShownBy, qw_dec (qw_yb my_X12_isShownBy) q.1 q.2 := fun q h => qw_okb_dec (List.all_eq_true.mp (show cd_X12_isShownBy.all (qw_okb prog_14_method_74_code) = true by decide +kernel) q h)
def my_X12_isShownWithout : qw_Y := (({ cls := "ShadowTheatreModel", name := "isShownWithout", desc := "(II)Z" } : Jvm.MethodName), prog_14_method_77_code, 4, (Option.some Jvm.ClassFile.FieldType.boolean), 2, 5, 117)
def cd_X12_isShownWithout : List (Nat × Instr) := [(0, .aload_n 0), (1, .iload_n 2), (2, .putfield 198), (5, .aload_n 0), (6, .iload_n 1), (7, .invokevirtual 229), (10, .istore_n 3), (11, .aload_n 0), (12, .iconst 0), (13, .putfield 198), (16, .iload_n 3), (17, .ireturn)]
theorem co_X12_isShownWithout : ∀ q ∈ cd_X12_isShownWithout, qw_dec (qw_yb my_X12_isShownWithout) q.1 q.2 := fun q h => qw_okb_dec (List.all_eq_true.mp (show cd_X12_isShownWithout.all (qw_okb prog_14_method_77_code) = true by decide +kernel) q h)
def my_X12_isStep : qw_Y := (({ cls := "ShadowTheatreModel", name := "isStep", desc := "(I)Z" } : Jvm.MethodName), prog_14_method_35_code, 1, (Option.some Jvm.ClassFile.FieldType.boolean), 1, 1, 25)
def cd_X12_isStep : List (Nat × Instr) := [(0, .iload_n 0), (1, .i2l), (2, .lconst 0), (3, .ldc2_w 145), (6, .invokestatic 70), (9, .ireturn)]
theorem co_X12_isStep : ∀ q ∈ cd_X12_isStep, qw_dec (qw_yb my_X12_isStep) q.1 q.2 := fun q h => qw_okb_dec (List.all_eq_true.mp (show cd_X12_isStep.all (qw_okb prog_14_method_35_code) = true by decide +kernel) q h)
def my_X12_isText : qw_Y := (({ cls := "ShadowTheatreModel", name := "isText", desc := "(I)Z" } : Jvm.MethodName), prog_14_method_19_code, 1, (Option.some Jvm.ClassFile.FieldType.boolean), 1, 1, 25)
def cd_X12_isText : List (Nat × Instr) := [(0, .iload_n 0), (1, .i2l), (2, .lconst 0), (3, .ldc2_w 83), (6, .invokestatic 70), (9, .ireturn)]
theorem co_X12_isText : ∀ q ∈ cd_X12_isText, qw_dec (qw_yb my_X12_isText) q.1 q.2 := fun q h => qw_okb_dec (List.all_eq_true.mp (show cd_X12_isText.all (qw_okb prog_14_method_19_code) = true by decide +kernel) q h)
def my_X12_isTouching : qw_Y := (({ cls := "ShadowTheatreModel", name := "isTouching", desc := "(III)Z" } : Jvm.MethodName), prog_14_method_65_code, 6, (Option.some Jvm.ClassFile.FieldType.boolean), 3, 0, 0)
def cd_X12_isTouching : List (Nat × Instr) := [(0, .aload_n 0), (1, .getfield 49), (4, .bipush 8), (6, .iload_n 1), (7, .imul), (8, .iload_n 2), (9, .iadd), (10, .iaload), (11, .istore 4), (13, .aload_n 0), (14, .getfield 49), (17, .bipush 8), (19, .iload_n 1), (20, .imul), (21, .iload_n 3), (22, .iadd), (23, .iaload), (24, .istore 5), (26, .aload_n 0), (27, .getfield 46), (30, .bipush 8), (32, .iload_n 1), (33, .imul), (34, .iload_n 2), (35, .iadd), (36, .iaload), (37, .aload_n 0), (38, .getfield 46), (41, .bipush 8), (43, .iload_n 1), (44, .imul), (45, .iload_n 3), (46, .iadd), (47, .iaload), (48, .if_icmp .ne 43), (51, .iload 4), (53, .iload 5), (55, .aload_n 0), (56, .getfield 28), (59, .iconst 4), (60, .iload_n 3), (61, .imul), (62, .iconst 3), (63, .iadd), (64, .iaload), (65, .iadd), (66, .if_icmp .ge 25), (69, .iload 5), (71, .iload 4), (73, .aload_n 0), (74, .getfield 28), (77, .iconst 4), (78, .iload_n 2), (79, .imul), (80, .iconst 3), (81, .iadd), (82, .iaload), (83, .iadd), (84, .if_icmp .ge 7), (87, .iconst 1), (88, .goto 4), (91, .iconst 0), (92, .ireturn)]
theorem co_X12_isTouching : ∀ q ∈ cd_X12_isTouching, qw_dec (qw_yb my_X12_isTouching) q.1 q.2 := fun q h => qw_okb_dec (List.all_eq_true.mp (show cd_X12_isTouching.all (qw_okb prog_14_method_65_code) = true by decide +kernel) q h)
def my_X12_isTwo : qw_Y := (({ cls := "ShadowTheatreModel", name := "isTwo", desc := "(I)Z" } : Jvm.MethodName), prog_14_method_5_code, 1, (Option.some Jvm.ClassFile.FieldType.boolean), 1, 1, 25)
def cd_X12_isTwo : List (Nat × Instr) := [(0, .iload_n 0), (1, .i2l), (2, .lconst 0), (3, .lconst 1), (4, .invokestatic 70), (7, .ireturn)]
theorem co_X12_isTwo : ∀ q ∈ cd_X12_isTwo, qw_dec (qw_yb my_X12_isTwo) q.1 q.2 := fun q h => qw_okb_dec (List.all_eq_true.mp (show cd_X12_isTwo.all (qw_okb prog_14_method_5_code) = true by decide +kernel) q h)
def my_X12_keeps : qw_Y := (({ cls := "ShadowTheatreModel", name := "keeps", desc := "(I)V" } : Jvm.MethodName), prog_14_method_48_code, 3, (Option.none : Option Jvm.ClassFile.FieldType), 1, 0, 0)
def cd_X12_keeps : List (Nat × Instr) := [(0, .iconst 0), (1, .istore_n 2), (2, .iload_n 2), (3, .aload_n 0), (4, .getfield 109), (7, .if_icmp .ge 43), (10, .aload_n 0), (11, .getfield 46), (14, .bipush 8), (16, .iload_n 1), (17, .imul), (18, .iload_n 2), (19, .iadd), (20, .aload_n 0), (21, .getfield 52), (24, .iload_n 2), (25, .iaload), (26, .iastore), (27, .aload_n 0), (28, .getfield 49), (31, .bipush 8), (33, .iload_n 1), (34, .imul), (35, .iload_n 2), (36, .iadd), (37, .aload_n 0), (38, .getfield 55), (41, .iload_n 2), (42, .iaload), (43, .iastore), (44, .iinc 2 1), (47, .goto (-45)), (50, .return_)]
theorem co_X12_keeps : ∀ q ∈ cd_X12_keeps, qw_dec (qw_yb my_X12_keeps) q.1 q.2 := fun q h => qw_okb_dec (List.all_eq_true.mp (show cd_X12_keeps.all (qw_okb prog_14_method_48_code) = true by decide +kernel) q h)
def my_X12_lacks : qw_Y := (({ cls := "ShadowTheatreModel", name := "lacks", desc := "(III)I" } : Jvm.MethodName), prog_14_method_14_code, 4, (Option.some Jvm.ClassFile.FieldType.int), 3, 1, 25)
def cd_X12_lacks : List (Nat × Instr) := [(0, .aload_n 0), (1, .getfield 7), (4, .iload_n 1), (5, .iaload), (6, .ifCond .ge 9), (9, .aload_n 0), (10, .iconst 1), (11, .invokevirtual 85), (14, .ireturn), (15, .aload_n 0), (16, .getfield 7), (19, .iload_n 1), (20, .iaload), (21, .iload_n 2), (22, .if_icmp .eq 9), (25, .aload_n 0), (26, .iconst 3), (27, .invokevirtual 85), (30, .ireturn), (31, .iload_n 3), (32, .i2l), (33, .lconst 0), (34, .aload_n 0), (35, .getfield 13), (38, .iload_n 1), (39, .iaload), (40, .iconst 1), (41, .isub), (42, .i2l), (43, .invokestatic 70), (46, .ifCond .eq 7), (49, .iconst 0), (50, .goto 8), (53, .aload_n 0), (54, .iconst 2), (55, .invokevirtual 85), (58, .ireturn)]
theorem co_X12_lacks : ∀ q ∈ cd_X12_lacks, qw_dec (qw_yb my_X12_lacks) q.1 q.2 := fun q h => qw_okb_dec (List.all_eq_true.mp (show cd_X12_lacks.all (qw_okb prog_14_method_14_code) = true by decide +kernel) q h)
def my_X12_lamp : qw_Y := (({ cls := "ShadowTheatreModel", name := "lamp", desc := "(I)I" } : Jvm.MethodName), prog_14_method_42_code, 3, (Option.some Jvm.ClassFile.FieldType.int), 1, 2, 45)
def cd_X12_lamp : List (Nat × Instr) := [(0, .iload_n 1), (1, .invokestatic 166), (4, .ifCond .ne 6), (7, .bipush (-2)), (9, .ireturn), (10, .aload_n 0), (11, .getfield 64), (14, .istore_n 2), (15, .aload_n 0), (16, .iload_n 1), (17, .putfield 64), (20, .iload_n 2), (21, .ireturn)]
theorem co_X12_lamp : ∀ q ∈ cd_X12_lamp, qw_dec (qw_yb my_X12_lamp) q.1 q.2 := fun q h => qw_okb_dec (List.all_eq_true.mp (show cd_X12_lamp.all (qw_okb prog_14_method_42_code) = true by decide +kernel) q h)
def my_X12_lay : qw_Y := (({ cls := "ShadowTheatreModel", name := "lay", desc := "(IIII)I" } : Jvm.MethodName), prog_14_method_16_code, 6, (Option.some Jvm.ClassFile.FieldType.int), 4, 2, 48)
def cd_X12_lay : List (Nat × Instr) := [(0, .iload_n 1), (1, .invokestatic 79), (4, .ifCond .eq 15), (7, .iload_n 2), (8, .i2l), (9, .lconst 0), (10, .ldc2_w 83), (13, .invokestatic 70), (16, .ifCond .ne 6), (19, .bipush (-2)), (21, .ireturn), (22, .aload_n 0), (23, .iload_n 1), (24, .iload_n 2), (25, .iload_n 3), (26, .invokevirtual 89), (29, .istore 5), (31, .iload 5), (33, .ifCond .eq 6), (36, .iload 5), (38, .ireturn), (39, .aload_n 0), (40, .getfield 16), (43, .bipush 60), (45, .iload_n 1), (46, .imul), (47, .iload_n 3), (48, .iadd), (49, .iload_n 2), (50, .iload 4), (52, .invokestatic 93), (55, .iastore), (56, .iconst 1), (57, .ireturn)]
theorem co_X12_lay : ∀ q ∈ cd_X12_lay, qw_dec (qw_yb my_X12_lay) q.1 q.2 := fun q h => qw_okb_dec (List.all_eq_true.mp (show cd_X12_lay.all (qw_okb prog_14_method_16_code) = true by decide +kernel) q h)
def my_X12_leave : qw_Y := (({ cls := "ShadowTheatreModel", name := "leave", desc := "(II)I" } : Jvm.MethodName), prog_14_method_79_code, 3, (Option.some Jvm.ClassFile.FieldType.int), 2, 7, 164)
def cd_X12_leave : List (Nat × Instr) := [(0, .aload_n 0), (1, .invokevirtual 208), (4, .iload_n 1), (5, .invokestatic 157), (8, .ifCond .eq 24), (11, .iload_n 2), (12, .i2l), (13, .ldc2_w 253), (16, .lconst 1), (17, .invokestatic 70), (20, .ifCond .eq 12), (23, .aload_n 0), (24, .iload_n 1), (25, .iload_n 2), (26, .invokevirtual 261), (29, .goto 5), (32, .bipush (-2)), (34, .ireturn)]
theorem co_X12_leave : ∀ q ∈ cd_X12_leave, qw_dec (qw_yb my_X12_leave) q.1 q.2 := fun q h => qw_okb_dec (List.all_eq_true.mp (show cd_X12_leave.all (qw_okb prog_14_method_79_code) = true by decide +kernel) q h)
def my_X12_leaveOf : qw_Y := (({ cls := "ShadowTheatreModel", name := "leaveOf", desc := "(II)I" } : Jvm.MethodName), prog_14_method_78_code, 5, (Option.some Jvm.ClassFile.FieldType.int), 2, 6, 140)
def cd_X12_leaveOf : List (Nat × Instr) := [(0, .aload_n 0), (1, .invokevirtual 195), (4, .aload_n 0), (5, .iload_n 1), (6, .iconst 0), (7, .invokevirtual 258), (10, .ifCond .eq 14), (13, .iload_n 2), (14, .iconst (-1)), (15, .if_icmp .ne 7), (18, .iconst 0), (19, .goto 4), (22, .iconst (-1)), (23, .ireturn), (24, .iconst 0), (25, .istore_n 3), (26, .iload_n 3), (27, .aload_n 0), (28, .getfield 109), (31, .if_icmp .ge 39), (34, .aload_n 0), (35, .iload_n 1), (36, .iconst 1), (37, .iload_n 3), (38, .ishl), (39, .invokevirtual 258), (42, .ifCond .eq 22), (45, .iload_n 2), (46, .iconst (-1)), (47, .if_icmp .ne 7), (50, .iconst 1), (51, .goto 12), (54, .iload_n 2), (55, .ifCond .ne 7), (58, .iload_n 3), (59, .goto 4), (62, .iconst (-1)), (63, .ireturn), (64, .iinc 3 1), (67, .goto (-41)), (70, .iconst 0), (71, .istore_n 3), (72, .iload_n 3), (73, .aload_n 0), (74, .getfield 109), (77, .if_icmp .ge 65), (80, .iload_n 3), (81, .iconst 1), (82, .iadd), (83, .istore 4), (85, .iload 4), (87, .aload_n 0), (88, .getfield 109), (91, .if_icmp .ge 45), (94, .aload_n 0), (95, .iload_n 1), (96, .iconst 1), (97, .iload_n 3), (98, .ishl), (99, .iconst 1), (100, .iload 4), (102, .ishl), (103, .ior), (104, .invokevirtual 258), (107, .ifCond .eq 23), (110, .iload_n 2), (111, .iconst (-1)), (112, .if_icmp .ne 7), (115, .iconst 2), (116, .goto 13), (119, .iload_n 2), (120, .ifCond .ne 7), (123, .iload_n 3), (124, .goto 5), (127, .iload 4), (129, .ireturn), (130, .iinc 4 1), (133, .goto (-48)), (136, .iinc 3 1), (139, .goto (-67)), (142, .iconst (-1)), (143, .ireturn)]
theorem co_X12_leaveOf : ∀ q ∈ cd_X12_leaveOf, qw_dec (qw_yb my_X12_leaveOf) q.1 q.2 := fun q h => qw_okb_dec (List.all_eq_true.mp (show cd_X12_leaveOf.all (qw_okb prog_14_method_78_code) = true by decide +kernel) q h)
def my_X12_lesser : qw_Y := (({ cls := "ShadowTheatreModel", name := "lesser", desc := "(II)I" } : Jvm.MethodName), prog_14_method_7_code, 2, (Option.some Jvm.ClassFile.FieldType.int), 2, 0, 0)
def cd_X12_lesser : List (Nat × Instr) := [(0, .iload_n 0), (1, .iload_n 1), (2, .if_icmp .ge 7), (5, .iload_n 0), (6, .goto 4), (9, .iload_n 1), (10, .ireturn)]
theorem co_X12_lesser : ∀ q ∈ cd_X12_lesser, qw_dec (qw_yb my_X12_lesser) q.1 q.2 := fun q h => qw_okb_dec (List.all_eq_true.mp (show cd_X12_lesser.all (qw_okb prog_14_method_7_code) = true by decide +kernel) q h)
def my_X12_light : qw_Y := (({ cls := "ShadowTheatreModel", name := "light", desc := "(II)I" } : Jvm.MethodName), prog_14_method_54_code, 3, (Option.some Jvm.ClassFile.FieldType.int), 2, 5, 116)
def cd_X12_light : List (Nat × Instr) := [(0, .aload_n 0), (1, .invokevirtual 208), (4, .iload_n 1), (5, .invokestatic 157), (8, .ifCond .eq 19), (11, .iload_n 2), (12, .invokestatic 166), (15, .ifCond .eq 12), (18, .aload_n 0), (19, .iload_n 1), (20, .iload_n 2), (21, .invokevirtual 211), (24, .goto 5), (27, .bipush (-2)), (29, .ireturn)]
theorem co_X12_light : ∀ q ∈ cd_X12_light, qw_dec (qw_yb my_X12_light) q.1 q.2 := fun q h => qw_okb_dec (List.all_eq_true.mp (show cd_X12_light.all (qw_okb prog_14_method_54_code) = true by decide +kernel) q h)
def my_X12_lightOf : qw_Y := (({ cls := "ShadowTheatreModel", name := "lightOf", desc := "(II)I" } : Jvm.MethodName), prog_14_method_53_code, 5, (Option.some Jvm.ClassFile.FieldType.int), 2, 2, 49)
def cd_X12_lightOf : List (Nat × Instr) := [(0, .aload_n 0), (1, .iload_n 1), (2, .invokevirtual 205), (5, .ifCond .eq 7), (8, .iconst 0), (9, .goto 5), (12, .bipush 7), (14, .istore_n 3), (15, .iconst 0), (16, .istore 4), (18, .iload 4), (20, .aload_n 0), (21, .getfield 109), (24, .if_icmp .ge 60), (27, .iload_n 3), (28, .aload_n 0), (29, .iload_n 1), (30, .iload 4), (32, .iload_n 2), (33, .invokevirtual 201), (36, .ifCond .eq 38), (39, .aload_n 0), (40, .getfield 28), (43, .iconst 4), (44, .iload 4), (46, .imul), (47, .iconst 2), (48, .iadd), (49, .iaload), (50, .ifCond .ne 7), (53, .iconst 0), (54, .goto 22), (57, .bipush 8), (59, .aload_n 0), (60, .getfield 28), (63, .iconst 4), (64, .iload 4), (66, .imul), (67, .iconst 2), (68, .iadd), (69, .iaload), (70, .ishr), (71, .goto 5), (74, .bipush 7), (76, .iand), (77, .istore_n 3), (78, .iinc 4 1), (81, .goto (-63)), (84, .iload_n 3), (85, .ireturn)]
theorem co_X12_lightOf : ∀ q ∈ cd_X12_lightOf, qw_dec (qw_yb my_X12_lightOf) q.1 q.2 := fun q h => qw_okb_dec (List.all_eq_true.mp (show cd_X12_lightOf.all (qw_okb prog_14_method_53_code) = true by decide +kernel) q h)
def my_X12_lives : qw_Y := (({ cls := "ShadowTheatreModel", name := "lives", desc := "()V" } : Jvm.MethodName), prog_14_method_49_code, 2, (Option.none : Option Jvm.ClassFile.FieldType), 0, 2, 46)
def cd_X12_lives : List (Nat × Instr) := [(0, .iconst 0), (1, .istore_n 1), (2, .iload_n 1), (3, .aload_n 0), (4, .getfield 109), (7, .if_icmp .ge 39), (10, .aload_n 0), (11, .getfield 52), (14, .iload_n 1), (15, .aload_n 0), (16, .getfield 28), (19, .iconst 4), (20, .iload_n 1), (21, .imul), (22, .iaload), (23, .iastore), (24, .aload_n 0), (25, .getfield 55), (28, .iload_n 1), (29, .aload_n 0), (30, .getfield 28), (33, .iconst 4), (34, .iload_n 1), (35, .imul), (36, .iconst 1), (37, .iadd), (38, .iaload), (39, .iastore), (40, .iinc 1 1), (43, .goto (-41)), (46, .iconst 0), (47, .istore_n 1), (48, .iload_n 1), (49, .bipush 20), (51, .if_icmp .ge 54), (54, .aload_n 0), (55, .aload_n 0), (56, .getfield 34), (59, .iload_n 1), (60, .iaload), (61, .invokevirtual 149), (64, .ifCond .eq 30), (67, .aload_n 0), (68, .getfield 180), (71, .iload_n 1), (72, .invokestatic 183), (75, .ifCond .ne 19), (78, .aload_n 0), (79, .aload_n 0), (80, .getfield 34), (83, .iload_n 1), (84, .iaload), (85, .aload_n 0), (86, .getfield 37), (89, .iload_n 1), (90, .iaload), (91, .invokevirtual 187), (94, .aload_n 0), (95, .iload_n 1), (96, .invokevirtual 191), (99, .iinc 1 1), (102, .goto (-54)), (105, .return_)]
theorem co_X12_lives : ∀ q ∈ cd_X12_lives, qw_dec (qw_yb my_X12_lives) q.1 q.2 := fun q h => qw_okb_dec (List.all_eq_true.mp (show cd_X12_lives.all (qw_okb prog_14_method_49_code) = true by decide +kernel) q h)
def my_X12_lose : qw_Y := (({ cls := "ShadowTheatreModel", name := "lose", desc := "(I)I" } : Jvm.MethodName), prog_14_method_13_code, 2, (Option.some Jvm.ClassFile.FieldType.int), 1, 2, 45)
def cd_X12_lose : List (Nat × Instr) := [(0, .iload_n 1), (1, .invokestatic 79), (4, .ifCond .ne 6), (7, .bipush (-2)), (9, .ireturn), (10, .aload_n 0), (11, .getfield 7), (14, .iload_n 1), (15, .iaload), (16, .ifCond .ge 9), (19, .aload_n 0), (20, .iconst 1), (21, .invokevirtual 85), (24, .ireturn), (25, .aload_n 0), (26, .getfield 7), (29, .iload_n 1), (30, .iconst (-1)), (31, .iastore), (32, .aload_n 0), (33, .getfield 13), (36, .iload_n 1), (37, .iaload), (38, .ireturn)]
theorem co_X12_lose : ∀ q ∈ cd_X12_lose, qw_dec (qw_yb my_X12_lose) q.1 q.2 := fun q h => qw_okb_dec (List.all_eq_true.mp (show cd_X12_lose.all (qw_okb prog_14_method_13_code) = true by decide +kernel) q h)
def my_X12_lot : qw_Y := (({ cls := "ShadowTheatreModel", name := "lot", desc := "(I)I" } : Jvm.MethodName), prog_14_method_93_code, 2, (Option.some Jvm.ClassFile.FieldType.int), 1, 0, 0)
def cd_X12_lot : List (Nat × Instr) := [(0, .aload_n 0), (1, .ldc_w 302), (4, .aload_n 0), (5, .getfield 303), (8, .imul), (9, .sipush 12345), (12, .iadd), (13, .putfield 303), (16, .aload_n 0), (17, .getfield 303), (20, .bipush 16), (22, .iushr), (23, .iload_n 1), (24, .irem), (25, .ireturn)]
theorem co_X12_lot : ∀ q ∈ cd_X12_lot, qw_dec (qw_yb my_X12_lot) q.1 q.2 := fun q h => qw_okb_dec (List.all_eq_true.mp (show cd_X12_lot.all (qw_okb prog_14_method_93_code) = true by decide +kernel) q h)
def my_X12_more : qw_Y := (({ cls := "ShadowTheatreModel", name := "more", desc := "(I)I" } : Jvm.MethodName), prog_14_method_76_code, 2, (Option.some Jvm.ClassFile.FieldType.int), 1, 7, 162)
def cd_X12_more : List (Nat × Instr) := [(0, .aload_n 0), (1, .invokevirtual 208), (4, .iload_n 1), (5, .i2l), (6, .ldc2_w 253), (9, .lconst 1), (10, .invokestatic 70), (13, .ifCond .eq 11), (16, .aload_n 0), (17, .iload_n 1), (18, .invokevirtual 255), (21, .goto 5), (24, .bipush (-2)), (26, .ireturn)]
theorem co_X12_more : ∀ q ∈ cd_X12_more, qw_dec (qw_yb my_X12_more) q.1 q.2 := fun q h => qw_okb_dec (List.all_eq_true.mp (show cd_X12_more.all (qw_okb prog_14_method_76_code) = true by decide +kernel) q h)
def my_X12_moreOf : qw_Y := (({ cls := "ShadowTheatreModel", name := "moreOf", desc := "(I)I" } : Jvm.MethodName), prog_14_method_75_code, 4, (Option.some Jvm.ClassFile.FieldType.int), 1, 6, 139)
def cd_X12_moreOf : List (Nat × Instr) := [(0, .aload_n 0), (1, .iconst (-1)), (2, .iconst (-1)), (3, .invokevirtual 250), (6, .ifCond .eq 14), (9, .iload_n 1), (10, .iconst (-1)), (11, .if_icmp .ne 7), (14, .iconst 0), (15, .goto 4), (18, .iconst (-1)), (19, .ireturn), (20, .iconst 0), (21, .istore_n 2), (22, .iload_n 2), (23, .iconst 4), (24, .aload_n 0), (25, .getfield 109), (28, .imul), (29, .if_icmp .ge 37), (32, .aload_n 0), (33, .iload_n 2), (34, .iconst (-1)), (35, .invokevirtual 250), (38, .ifCond .eq 22), (41, .iload_n 1), (42, .iconst (-1)), (43, .if_icmp .ne 7), (46, .iconst 1), (47, .goto 12), (50, .iload_n 1), (51, .ifCond .ne 7), (54, .iload_n 2), (55, .goto 4), (58, .iconst (-1)), (59, .ireturn), (60, .iinc 2 1), (63, .goto (-41)), (66, .iconst 0), (67, .istore_n 2), (68, .iload_n 2), (69, .iconst 4), (70, .aload_n 0), (71, .getfield 109), (74, .imul), (75, .if_icmp .ge 55), (78, .iconst 0), (79, .istore_n 3), (80, .iload_n 3), (81, .iconst 4), (82, .aload_n 0), (83, .getfield 109), (86, .imul), (87, .if_icmp .ge 37), (90, .aload_n 0), (91, .iload_n 2), (92, .iload_n 3), (93, .invokevirtual 250), (96, .ifCond .eq 22), (99, .iload_n 1), (100, .iconst (-1)), (101, .if_icmp .ne 7), (104, .iconst 2), (105, .goto 12), (108, .iload_n 1), (109, .ifCond .ne 7), (112, .iload_n 2), (113, .goto 4), (116, .iload_n 3), (117, .ireturn), (118, .iinc 3 1), (121, .goto (-41)), (124, .iinc 2 1), (127, .goto (-59)), (130, .iconst (-1)), (131, .ireturn)]
theorem co_X12_moreOf : ∀ q ∈ cd_X12_moreOf, qw_dec (qw_yb my_X12_moreOf) q.1 q.2 := fun q h => qw_okb_dec (List.all_eq_true.mp (show cd_X12_moreOf.all (qw_okb prog_14_method_75_code) = true by decide +kernel) q h)
def my_X12_never : qw_Y := (({ cls := "ShadowTheatreModel", name := "never", desc := "()I" } : Jvm.MethodName), prog_14_method_84_code, 1, (Option.some Jvm.ClassFile.FieldType.int), 0, 5, 117)
def cd_X12_never : List (Nat × Instr) := [(0, .aload_n 0), (1, .invokevirtual 208), (4, .aload_n 0), (5, .invokevirtual 273), (8, .ireturn)]
theorem co_X12_never : ∀ q ∈ cd_X12_never, qw_dec (qw_yb my_X12_never) q.1 q.2 := fun q h => qw_okb_dec (List.all_eq_true.mp (show cd_X12_never.all (qw_okb prog_14_method_84_code) = true by decide +kernel) q h)
def my_X12_neverNow : qw_Y := (({ cls := "ShadowTheatreModel", name := "neverNow", desc := "()I" } : Jvm.MethodName), prog_14_method_83_code, 3, (Option.some Jvm.ClassFile.FieldType.int), 0, 4, 95)
def cd_X12_neverNow : List (Nat × Instr) := [(0, .iconst 0), (1, .istore_n 1), (2, .iconst 0), (3, .istore_n 2), (4, .iload_n 2), (5, .bipush 20), (7, .if_icmp .ge 43), (10, .aload_n 0), (11, .iconst 1), (12, .iload_n 2), (13, .ishl), (14, .putfield 180), (17, .iload_n 1), (18, .aload_n 0), (19, .getfield 34), (22, .iload_n 2), (23, .iaload), (24, .iconst (-1)), (25, .if_icmp .eq 16), (28, .aload_n 0), (29, .invokevirtual 269), (32, .ifCond .eq 9), (35, .iconst 1), (36, .iload_n 2), (37, .ishl), (38, .goto 4), (41, .iconst 0), (42, .ior), (43, .istore_n 1), (44, .iinc 2 1), (47, .goto (-43)), (50, .aload_n 0), (51, .iconst 0), (52, .putfield 180), (55, .iload_n 1), (56, .ireturn)]
theorem co_X12_neverNow : ∀ q ∈ cd_X12_neverNow, qw_dec (qw_yb my_X12_neverNow) q.1 q.2 := fun q h => qw_okb_dec (List.all_eq_true.mp (show cd_X12_neverNow.all (qw_okb prog_14_method_83_code) = true by decide +kernel) q h)
def my_X12_no : qw_Y := (({ cls := "ShadowTheatreModel", name := "no", desc := "(I)J" } : Jvm.MethodName), prog_14_method_4_code, 1, (Option.some Jvm.ClassFile.FieldType.long), 1, 0, 0)
def cd_X12_no : List (Nat × Instr) := [(0, .ldc2_w 68), (3, .iload_n 0), (4, .i2l), (5, .lsub), (6, .lreturn)]
theorem co_X12_no : ∀ q ∈ cd_X12_no, qw_dec (qw_yb my_X12_no) q.1 q.2 := fun q h => qw_okb_dec (List.all_eq_true.mp (show cd_X12_no.all (qw_okb prog_14_method_4_code) = true by decide +kernel) q h)
def my_X12_part : qw_Y := (({ cls := "ShadowTheatreModel", name := "part", desc := "(JJI)J" } : Jvm.MethodName), prog_14_method_9_code, 11, (Option.some Jvm.ClassFile.FieldType.long), 3, 0, 0)
def cd_X12_part : List (Nat × Instr) := [(0, .lload_n 0), (1, .lstore 5), (3, .lload_n 2), (4, .lstore 7), (6, .lload 7), (8, .lconst 0), (9, .lcmp), (10, .ifCond .eq 21), (13, .lload 5), (15, .lload 7), (17, .lrem), (18, .lstore 9), (20, .lload 7), (22, .lstore 5), (24, .lload 9), (26, .lstore 7), (28, .goto (-22)), (31, .iload 4), (33, .ifCond .ne 7), (36, .lload_n 0), (37, .goto 4), (40, .lload_n 2), (41, .lload 5), (43, .ldiv), (44, .lreturn)]
theorem co_X12_part : ∀ q ∈ cd_X12_part, qw_dec (qw_yb my_X12_part) q.1 q.2 := fun q h => qw_okb_dec (List.all_eq_true.mp (show cd_X12_part.all (qw_okb prog_14_method_9_code) = true by decide +kernel) q h)
def my_X12_partOf : qw_Y := (({ cls := "ShadowTheatreModel", name := "partOf", desc := "(III)I" } : Jvm.MethodName), prog_14_method_25_code, 3, (Option.some Jvm.ClassFile.FieldType.int), 3, 2, 47)
def cd_X12_partOf : List (Nat × Instr) := [(0, .iload_n 0), (1, .tableswitch 69 0 3 #[31, 39, 46, 64]), (32, .iload_n 1), (33, .iconst 1), (34, .bipush 8), (36, .invokestatic 103), (39, .ireturn), (40, .iload_n 1), (41, .iconst 0), (42, .iconst 3), (43, .invokestatic 103), (46, .ireturn), (47, .iload_n 1), (48, .iconst 0), (49, .iload_n 2), (50, .bipush 30), (52, .if_icmp .ne 7), (55, .iconst 1), (56, .goto 5), (59, .bipush 9), (61, .invokestatic 103), (64, .ireturn), (65, .iload_n 1), (66, .invokestatic 106), (69, .ireturn), (70, .iload_n 0), (71, .bipush 9), (73, .if_icmp .le 8), (76, .bipush (-9)), (78, .goto 25), (81, .iload_n 1), (82, .bipush 35), (84, .if_icmp .ne 7), (87, .iconst 1), (88, .goto 15), (91, .iload_n 1), (92, .bipush 46), (94, .if_icmp .ne 7), (97, .iconst 0), (98, .goto 5), (101, .bipush (-9)), (103, .ireturn)]
theorem co_X12_partOf : ∀ q ∈ cd_X12_partOf, qw_dec (qw_yb my_X12_partOf) q.1 q.2 := fun q h => qw_okb_dec (List.all_eq_true.mp (show cd_X12_partOf.all (qw_okb prog_14_method_25_code) = true by decide +kernel) q h)
def my_X12_picture : qw_Y := (({ cls := "ShadowTheatreModel", name := "picture", desc := "(I)I" } : Jvm.MethodName), prog_14_method_41_code, 2, (Option.some Jvm.ClassFile.FieldType.int), 1, 2, 47)
def cd_X12_picture : List (Nat × Instr) := [(0, .aload_n 0), (1, .invokevirtual 139), (4, .pop), (5, .iload_n 1), (6, .invokestatic 166), (9, .ifCond .eq 12), (12, .aload_n 0), (13, .getfield 40), (16, .iload_n 1), (17, .iaload), (18, .goto 5), (21, .bipush (-2)), (23, .ireturn)]
theorem co_X12_picture : ∀ q ∈ cd_X12_picture, qw_dec (qw_yb my_X12_picture) q.1 q.2 := fun q h => qw_okb_dec (List.all_eq_true.mp (show cd_X12_picture.all (qw_okb prog_14_method_41_code) = true by decide +kernel) q h)
def my_X12_play : qw_Y := (({ cls := "ShadowTheatreModel", name := "play", desc := "(III)I" } : Jvm.MethodName), prog_14_method_95_code, 4, (Option.some Jvm.ClassFile.FieldType.int), 3, 7, 166)
def cd_X12_play : List (Nat × Instr) := [(0, .aload_n 0), (1, .invokevirtual 208), (4, .iload_n 2), (5, .i2l), (6, .lconst 0), (7, .ldc2_w 309), (10, .invokestatic 70), (13, .ifCond .eq 20), (16, .iload_n 3), (17, .invokestatic 160), (20, .ifCond .eq 13), (23, .aload_n 0), (24, .iload_n 1), (25, .iload_n 2), (26, .iload_n 3), (27, .invokevirtual 311), (30, .goto 5), (33, .bipush (-2)), (35, .ireturn)]
theorem co_X12_play : ∀ q ∈ cd_X12_play, qw_dec (qw_yb my_X12_play) q.1 q.2 := fun q h => qw_okb_dec (List.all_eq_true.mp (show cd_X12_play.all (qw_okb prog_14_method_95_code) = true by decide +kernel) q h)
def my_X12_playOf : qw_Y := (({ cls := "ShadowTheatreModel", name := "playOf", desc := "(III)I" } : Jvm.MethodName), prog_14_method_94_code, 5, (Option.some Jvm.ClassFile.FieldType.int), 3, 6, 142)
def cd_X12_playOf : List (Nat × Instr) := [(0, .aload_n 0), (1, .iload_n 1), (2, .putfield 303), (5, .aload_n 0), (6, .iconst (-1)), (7, .invokevirtual 115), (10, .pop), (11, .iconst 0), (12, .istore 4), (14, .iload 4), (16, .iload_n 2), (17, .if_icmp .ge 43), (20, .aload_n 0), (21, .getfield 109), (24, .ifCond .le 36), (27, .aload_n 0), (28, .getfield 34), (31, .iload 4), (33, .aload_n 0), (34, .aload_n 0), (35, .getfield 109), (38, .invokevirtual 306), (41, .iastore), (42, .aload_n 0), (43, .getfield 37), (46, .iload 4), (48, .aload_n 0), (49, .iconst 4), (50, .invokevirtual 306), (53, .iastore), (54, .iinc 4 1), (57, .goto (-43)), (60, .aload_n 0), (61, .invokevirtual 195), (64, .iload_n 3), (65, .ifCond .ne 11), (68, .aload_n 0), (69, .iconst 1), (70, .invokevirtual 232), (73, .goto 9), (76, .aload_n 0), (77, .bipush 19), (79, .invokevirtual 223), (82, .istore 4), (84, .aload_n 0), (85, .invokevirtual 136), (88, .pop), (89, .iload 4), (91, .ireturn)]
theorem co_X12_playOf : ∀ q ∈ cd_X12_playOf, qw_dec (qw_yb my_X12_playOf) q.1 q.2 := fun q h => qw_okb_dec (List.all_eq_true.mp (show cd_X12_playOf.all (qw_okb prog_14_method_94_code) = true by decide +kernel) q h)
def my_X12_read : qw_Y := (({ cls := "ShadowTheatreModel", name := "read", desc := "(I)I" } : Jvm.MethodName), prog_14_method_45_code, 4, (Option.some Jvm.ClassFile.FieldType.int), 1, 3, 66)
def cd_X12_read : List (Nat × Instr) := [(0, .iload_n 1), (1, .invokestatic 79), (4, .ifCond .ne 6), (7, .bipush (-2)), (9, .ireturn), (10, .aload_n 0), (11, .getfield 7), (14, .iload_n 1), (15, .iaload), (16, .ifCond .ge 9), (19, .aload_n 0), (20, .iconst 1), (21, .invokevirtual 85), (24, .ireturn), (25, .iconst 0), (26, .istore_n 2), (27, .iconst 1), (28, .istore_n 3), (29, .iload_n 3), (30, .ifCond .eq 52), (33, .iload_n 2), (34, .aload_n 0), (35, .getfield 13), (38, .iload_n 1), (39, .iaload), (40, .if_icmp .ge 42), (43, .aload_n 0), (44, .aload_n 0), (45, .getfield 16), (48, .bipush 60), (50, .iload_n 1), (51, .imul), (52, .iload_n 2), (53, .iadd), (54, .iaload), (55, .invokevirtual 172), (58, .ifCond .lt 7), (61, .iconst 1), (62, .goto 4), (65, .iconst 0), (66, .istore_n 3), (67, .iload_n 2), (68, .iload_n 3), (69, .ifCond .eq 7), (72, .iconst 1), (73, .goto 4), (76, .iconst 0), (77, .iadd), (78, .istore_n 2), (79, .goto (-50)), (82, .iload_n 2), (83, .ireturn)]
theorem co_X12_read : ∀ q ∈ cd_X12_read, qw_dec (qw_yb my_X12_read) q.1 q.2 := fun q h => qw_okb_dec (List.all_eq_true.mp (show cd_X12_read.all (qw_okb prog_14_method_45_code) = true by decide +kernel) q h)
def my_X12_readsCues : qw_Y := (({ cls := "ShadowTheatreModel", name := "readsCues", desc := "()I" } : Jvm.MethodName), prog_14_method_29_code, 6, (Option.some Jvm.ClassFile.FieldType.int), 0, 1, 25)
def cd_X12_readsCues : List (Nat × Instr) := [(0, .aload_n 0), (1, .iconst (-1)), (2, .invokevirtual 115), (5, .pop), (6, .aload_n 0), (7, .getfield 25), (10, .iconst 1), (11, .iaload), (12, .istore_n 1), (13, .iconst 0), (14, .istore_n 2), (15, .iload_n 2), (16, .iload_n 1), (17, .if_icmp .ge 147), (20, .aload_n 0), (21, .getfield 22), (24, .bipush 88), (26, .iload_n 2), (27, .iadd), (28, .iaload), (29, .istore_n 3), (30, .iload_n 2), (31, .iconst 2), (32, .idiv), (33, .istore 4), (35, .iload_n 2), (36, .iconst 2), (37, .irem), (38, .ifCond .ne 53), (41, .iload_n 3), (42, .bipush 46), (44, .if_icmp .eq 23), (47, .iload_n 3), (48, .i2l), (49, .ldc2_w 118), (52, .ldc2_w 120), (55, .invokestatic 70), (58, .ifCond .ne 9), (61, .aload_n 0), (62, .iload_n 2), (63, .invokevirtual 115), (66, .ireturn), (67, .aload_n 0), (68, .getfield 34), (71, .iload 4), (73, .iload_n 3), (74, .bipush 46), (76, .if_icmp .ne 7), (79, .iconst (-1)), (80, .goto 7), (83, .iload_n 3), (84, .bipush 97), (86, .isub), (87, .iastore), (88, .goto 70), (91, .aload_n 0), (92, .getfield 34), (95, .iload 4), (97, .iaload), (98, .iconst (-1)), (99, .if_icmp .ne 7), (102, .iconst 1), (103, .goto 4), (106, .iconst 0), (107, .istore 5), (109, .iload 5), (111, .ifCond .eq 12), (114, .iload_n 3), (115, .bipush 46), (117, .if_icmp .eq 21), (120, .goto 12), (123, .iload_n 3), (124, .invokestatic 122), (127, .bipush (-9)), (129, .if_icmp .ne 9), (132, .aload_n 0), (133, .iload_n 2), (134, .invokevirtual 115), (137, .ireturn), (138, .aload_n 0), (139, .getfield 37), (142, .iload 4), (144, .iload 5), (146, .ifCond .eq 7), (149, .iconst (-1)), (150, .goto 7), (153, .iload_n 3), (154, .invokestatic 122), (157, .iastore), (158, .iinc 2 1), (161, .goto (-146)), (164, .iload_n 1), (165, .iconst 2), (166, .irem), (167, .iconst 1), (168, .if_icmp .ne 11), (171, .aload_n 0), (172, .iload_n 1), (173, .invokevirtual 115), (176, .goto 4), (179, .iconst (-1)), (180, .ireturn)]
theorem co_X12_readsCues : ∀ q ∈ cd_X12_readsCues, qw_dec (qw_yb my_X12_readsCues) q.1 q.2 := fun q h => qw_okb_dec (List.all_eq_true.mp (show cd_X12_readsCues.all (qw_okb prog_14_method_29_code) = true by decide +kernel) q h)
def my_X12_readsFigures : qw_Y := (({ cls := "ShadowTheatreModel", name := "readsFigures", desc := "()I" } : Jvm.MethodName), prog_14_method_26_code, 8, (Option.some Jvm.ClassFile.FieldType.int), 0, 3, 69)
def cd_X12_readsFigures : List (Nat × Instr) := [(0, .aload_n 0), (1, .iconst 0), (2, .putfield 109), (5, .aload_n 0), (6, .getfield 25), (9, .iconst 0), (10, .iaload), (11, .istore_n 1), (12, .iconst 0), (13, .istore_n 2), (14, .iconst 0), (15, .istore_n 3), (16, .iload_n 3), (17, .iload_n 1), (18, .if_icmp .ge 245), (21, .aload_n 0), (22, .getfield 22), (25, .iload_n 3), (26, .iaload), (27, .istore 4), (29, .iconst 4), (30, .aload_n 0), (31, .getfield 109), (34, .imul), (35, .istore 5), (37, .iload_n 2), (38, .iconst 4), (39, .if_icmp .le 14), (42, .iload 4), (44, .bipush 59), (46, .if_icmp .ne 7), (49, .iconst 1), (50, .goto 4), (53, .iconst 0), (54, .istore 6), (56, .aload_n 0), (57, .getfield 109), (60, .bipush 8), (62, .if_icmp .ge 30), (65, .iload_n 2), (66, .iload 4), (68, .iload_n 2), (69, .iconst 2), (70, .if_icmp .ne 15), (73, .aload_n 0), (74, .getfield 28), (77, .iload 5), (79, .iconst 1), (80, .iadd), (81, .iaload), (82, .goto 4), (85, .iconst 0), (86, .invokestatic 112), (89, .goto 5), (92, .bipush (-9)), (94, .istore 7), (96, .iload 7), (98, .bipush (-9)), (100, .if_icmp .ne 15), (103, .iload 6), (105, .ifCond .ne 10), (108, .aload_n 0), (109, .iconst 0), (110, .putfield 109), (113, .iload_n 3), (114, .ireturn), (115, .iload 6), (117, .ifCond .eq 18), (120, .aload_n 0), (121, .dup), (122, .getfield 109), (125, .iconst 1), (126, .iadd), (127, .putfield 109), (130, .iconst 0), (131, .istore_n 2), (132, .goto 125), (135, .iload_n 2), (136, .ifCond .ne 25), (139, .aload_n 0), (140, .getfield 28), (143, .iload 5), (145, .iload 7), (147, .iastore), (148, .aload_n 0), (149, .getfield 31), (152, .aload_n 0), (153, .getfield 109), (156, .iconst 0), (157, .iastore), (158, .goto 96), (161, .iload_n 2), (162, .iconst 1), (163, .if_icmp .ne 20), (166, .aload_n 0), (167, .getfield 28), (170, .iload 5), (172, .iconst 1), (173, .iadd), (174, .bipush 10), (176, .iload 7), (178, .imul), (179, .iastore), (180, .goto 74), (183, .iload_n 2), (184, .iconst 2), (185, .if_icmp .ne 20), (188, .aload_n 0), (189, .getfield 28), (192, .iload 5), (194, .iconst 1), (195, .iadd), (196, .dup2), (197, .iaload), (198, .iload 7), (200, .iadd), (201, .iastore), (202, .goto 52), (205, .iload_n 2), (206, .iconst 3), (207, .if_icmp .ne 17), (210, .aload_n 0), (211, .getfield 28), (214, .iload 5), (216, .iconst 2), (217, .iadd), (218, .iload 7), (220, .iastore), (221, .goto 33), (224, .aload_n 0), (225, .getfield 28), (228, .iload 5), (230, .iconst 3), (231, .iadd), (232, .iload_n 2), (233, .iconst 3), (234, .isub), (235, .iastore), (236, .aload_n 0), (237, .getfield 31), (240, .aload_n 0), (241, .getfield 109), (244, .dup2), (245, .iaload), (246, .iload 7), (248, .iload_n 2), (249, .iconst 4), (250, .isub), (251, .ishl), (252, .ior), (253, .iastore), (254, .iinc 2 1), (257, .iinc 3 1), (260, .goto (-244)), (263, .iload_n 1), (264, .ifCond .le 15), (267, .iload_n 2), (268, .iconst 5), (269, .if_icmp .ge 10), (272, .aload_n 0), (273, .iconst 0), (274, .putfield 109), (277, .iload_n 1), (278, .ireturn), (279, .aload_n 0), (280, .dup), (281, .getfield 109), (284, .iload_n 1), (285, .ifCond .le 7), (288, .iconst 1), (289, .goto 4), (292, .iconst 0), (293, .iadd), (294, .putfield 109), (297, .iconst (-1)), (298, .ireturn)]
theorem co_X12_readsFigures : ∀ q ∈ cd_X12_readsFigures, qw_dec (qw_yb my_X12_readsFigures) q.1 q.2 := fun q h => qw_okb_dec (List.all_eq_true.mp (show cd_X12_readsFigures.all (qw_okb prog_14_method_26_code) = true by decide +kernel) q h)
def my_X12_readsPicture : qw_Y := (({ cls := "ShadowTheatreModel", name := "readsPicture", desc := "()I" } : Jvm.MethodName), prog_14_method_31_code, 3, (Option.some Jvm.ClassFile.FieldType.int), 0, 1, 25)
def cd_X12_readsPicture : List (Nat × Instr) := [(0, .aload_n 0), (1, .iconst (-1)), (2, .invokevirtual 125), (5, .pop), (6, .iconst 0), (7, .istore_n 1), (8, .iload_n 1), (9, .aload_n 0), (10, .getfield 25), (13, .iconst 2), (14, .iaload), (15, .if_icmp .ge 66), (18, .aload_n 0), (19, .getfield 22), (22, .sipush 176), (25, .iload_n 1), (26, .iadd), (27, .iaload), (28, .istore_n 2), (29, .iload_n 2), (30, .bipush 46), (32, .if_icmp .eq 23), (35, .iload_n 2), (36, .i2l), (37, .ldc2_w 128), (40, .ldc2_w 130), (43, .invokestatic 70), (46, .ifCond .ne 9), (49, .aload_n 0), (50, .iload_n 1), (51, .invokevirtual 125), (54, .ireturn), (55, .aload_n 0), (56, .getfield 40), (59, .iload_n 1), (60, .iload_n 2), (61, .bipush 46), (63, .if_icmp .ne 7), (66, .iconst (-1)), (67, .goto 7), (70, .iload_n 2), (71, .bipush 48), (73, .isub), (74, .iastore), (75, .iinc 1 1), (78, .goto (-70)), (81, .iconst (-1)), (82, .ireturn)]
theorem co_X12_readsPicture : ∀ q ∈ cd_X12_readsPicture, qw_dec (qw_yb my_X12_readsPicture) q.1 q.2 := fun q h => qw_okb_dec (List.all_eq_true.mp (show cd_X12_readsPicture.all (qw_okb prog_14_method_31_code) = true by decide +kernel) q h)
def my_X12_readsText : qw_Y := (({ cls := "ShadowTheatreModel", name := "readsText", desc := "(I)I" } : Jvm.MethodName), prog_14_method_32_code, 2, (Option.some Jvm.ClassFile.FieldType.int), 1, 4, 96)
def cd_X12_readsText : List (Nat × Instr) := [(0, .iload_n 1), (1, .ifCond .ne 10), (4, .aload_n 0), (5, .invokevirtual 132), (8, .goto 19), (11, .iload_n 1), (12, .iconst 1), (13, .if_icmp .ne 10), (16, .aload_n 0), (17, .invokevirtual 136), (20, .goto 7), (23, .aload_n 0), (24, .invokevirtual 139), (27, .ireturn)]
theorem co_X12_readsText : ∀ q ∈ cd_X12_readsText, qw_dec (qw_yb my_X12_readsText) q.1 q.2 := fun q h => qw_okb_dec (List.all_eq_true.mp (show cd_X12_readsText.all (qw_okb prog_14_method_32_code) = true by decide +kernel) q h)
def my_X12_screen : qw_Y := (({ cls := "ShadowTheatreModel", name := "screen", desc := "(II)I" } : Jvm.MethodName), prog_14_method_60_code, 3, (Option.some Jvm.ClassFile.FieldType.int), 2, 5, 116)
def cd_X12_screen : List (Nat × Instr) := [(0, .aload_n 0), (1, .invokevirtual 208), (4, .iload_n 1), (5, .invokestatic 157), (8, .ifCond .eq 10), (11, .iload_n 2), (12, .invokestatic 160), (15, .ifCond .ne 8), (18, .bipush (-2)), (20, .goto 20), (23, .iload_n 2), (24, .ifCond .ne 11), (27, .aload_n 0), (28, .iload_n 1), (29, .invokevirtual 220), (32, .goto 8), (35, .aload_n 0), (36, .iload_n 1), (37, .invokevirtual 223), (40, .ireturn)]
theorem co_X12_screen : ∀ q ∈ cd_X12_screen, qw_dec (qw_yb my_X12_screen) q.1 q.2 := fun q h => qw_okb_dec (List.all_eq_true.mp (show cd_X12_screen.all (qw_okb prog_14_method_60_code) = true by decide +kernel) q h)
def my_X12_seen : qw_Y := (({ cls := "ShadowTheatreModel", name := "seen", desc := "(III)I" } : Jvm.MethodName), prog_14_method_80_code, 4, (Option.some Jvm.ClassFile.FieldType.int), 3, 2, 45)
def cd_X12_seen : List (Nat × Instr) := [(0, .iload_n 1), (1, .invokestatic 157), (4, .ifCond .eq 22), (7, .iload_n 2), (8, .invokestatic 166), (11, .ifCond .eq 15), (14, .iload_n 3), (15, .i2l), (16, .lconst 0), (17, .ldc2_w 264), (20, .invokestatic 70), (23, .ifCond .ne 6), (26, .bipush (-2)), (28, .ireturn), (29, .aload_n 0), (30, .getfield 266), (33, .bipush 8), (35, .if_icmp .ne 6), (38, .bipush (-4)), (40, .ireturn), (41, .aload_n 0), (42, .getfield 58), (45, .iconst 3), (46, .aload_n 0), (47, .getfield 266), (50, .imul), (51, .iload_n 1), (52, .iastore), (53, .aload_n 0), (54, .getfield 58), (57, .iconst 3), (58, .aload_n 0), (59, .getfield 266), (62, .imul), (63, .iconst 1), (64, .iadd), (65, .iload_n 2), (66, .iastore), (67, .aload_n 0), (68, .getfield 58), (71, .iconst 3), (72, .aload_n 0), (73, .getfield 266), (76, .imul), (77, .iconst 2), (78, .iadd), (79, .iload_n 3), (80, .iastore), (81, .aload_n 0), (82, .dup), (83, .getfield 266), (86, .iconst 1), (87, .iadd), (88, .putfield 266), (91, .aload_n 0), (92, .getfield 266), (95, .ireturn)]
theorem co_X12_seen : ∀ q ∈ cd_X12_seen, qw_dec (qw_yb my_X12_seen) q.1 q.2 := fun q h => qw_okb_dec (List.all_eq_true.mp (show cd_X12_seen.all (qw_okb prog_14_method_80_code) = true by decide +kernel) q h)
def my_X12_sheet : qw_Y := (({ cls := "ShadowTheatreModel", name := "sheet", desc := "(III)I" } : Jvm.MethodName), prog_14_method_12_code, 5, (Option.some Jvm.ClassFile.FieldType.int), 3, 2, 45)
def cd_X12_sheet : List (Nat × Instr) := [(0, .iload_n 1), (1, .invokestatic 79), (4, .ifCond .eq 21), (7, .iload_n 2), (8, .i2l), (9, .lconst 0), (10, .ldc2_w 83), (13, .invokestatic 70), (16, .ifCond .eq 9), (19, .iload_n 3), (20, .bipush 60), (22, .if_icmp .le 6), (25, .bipush (-2)), (27, .ireturn), (28, .iload_n 3), (29, .ifCond .ge 9), (32, .aload_n 0), (33, .iconst 5), (34, .invokevirtual 85), (37, .ireturn), (38, .aload_n 0), (39, .getfield 7), (42, .iload_n 1), (43, .iload_n 2), (44, .iastore), (45, .aload_n 0), (46, .getfield 13), (49, .iload_n 1), (50, .iload_n 3), (51, .iastore), (52, .iconst 0), (53, .istore 4), (55, .iload 4), (57, .iload_n 3), (58, .if_icmp .ge 22), (61, .aload_n 0), (62, .getfield 16), (65, .bipush 60), (67, .iload_n 1), (68, .imul), (69, .iload 4), (71, .iadd), (72, .iconst 0), (73, .iastore), (74, .iinc 4 1), (77, .goto (-22)), (80, .iload_n 3), (81, .ireturn)]
theorem co_X12_sheet : ∀ q ∈ cd_X12_sheet, qw_dec (qw_yb my_X12_sheet) q.1 q.2 := fun q h => qw_okb_dec (List.all_eq_true.mp (show cd_X12_sheet.all (qw_okb prog_14_method_12_code) = true by decide +kernel) q h)
def my_X12_shift : qw_Y := (({ cls := "ShadowTheatreModel", name := "shift", desc := "(II)I" } : Jvm.MethodName), prog_14_method_73_code, 3, (Option.some Jvm.ClassFile.FieldType.int), 2, 5, 123)
def cd_X12_shift : List (Nat × Instr) := [(0, .aload_n 0), (1, .invokevirtual 208), (4, .iload_n 1), (5, .invokestatic 157), (8, .ifCond .eq 19), (11, .iload_n 2), (12, .invokestatic 160), (15, .ifCond .eq 12), (18, .aload_n 0), (19, .iload_n 1), (20, .iload_n 2), (21, .invokevirtual 247), (24, .goto 5), (27, .bipush (-2)), (29, .ireturn)]
theorem co_X12_shift : ∀ q ∈ cd_X12_shift, qw_dec (qw_yb my_X12_shift) q.1 q.2 := fun q h => qw_okb_dec (List.all_eq_true.mp (show cd_X12_shift.all (qw_okb prog_14_method_73_code) = true by decide +kernel) q h)
def my_X12_shiftOf : qw_Y := (({ cls := "ShadowTheatreModel", name := "shiftOf", desc := "(II)I" } : Jvm.MethodName), prog_14_method_72_code, 8, (Option.some Jvm.ClassFile.FieldType.int), 2, 4, 96)
def cd_X12_shiftOf : List (Nat × Instr) := [(0, .aload_n 0), (1, .getfield 64), (4, .istore_n 3), (5, .iconst (-1)), (6, .istore 4), (8, .bipush 99), (10, .istore 5), (12, .aload_n 0), (13, .invokevirtual 195), (16, .iconst 0), (17, .istore 6), (19, .iload 6), (21, .bipush 32), (23, .if_icmp .ge 47), (26, .aload_n 0), (27, .iload 6), (29, .putfield 64), (32, .aload_n 0), (33, .iload_n 1), (34, .invokevirtual 220), (37, .istore 7), (39, .iload 7), (41, .iload 5), (43, .if_icmp .ge 8), (46, .iload 6), (48, .goto 5), (51, .iload 4), (53, .istore 4), (55, .iload 7), (57, .iload 5), (59, .invokestatic 177), (62, .istore 5), (64, .iinc 6 1), (67, .goto (-48)), (70, .aload_n 0), (71, .iload_n 3), (72, .putfield 64), (75, .iload_n 2), (76, .ifCond .ne 8), (79, .iload 4), (81, .goto 5), (84, .iload 5), (86, .ireturn)]
theorem co_X12_shiftOf : ∀ q ∈ cd_X12_shiftOf, qw_dec (qw_yb my_X12_shiftOf) q.1 q.2 := fun q h => qw_okb_dec (List.all_eq_true.mp (show cd_X12_shiftOf.all (qw_okb prog_14_method_72_code) = true by decide +kernel) q h)
def my_X12_shown : qw_Y := (({ cls := "ShadowTheatreModel", name := "shown", desc := "(I)I" } : Jvm.MethodName), prog_14_method_64_code, 2, (Option.some Jvm.ClassFile.FieldType.int), 1, 6, 142)
def cd_X12_shown : List (Nat × Instr) := [(0, .aload_n 0), (1, .invokevirtual 208), (4, .iload_n 1), (5, .invokestatic 160), (8, .ifCond .eq 11), (11, .aload_n 0), (12, .iload_n 1), (13, .invokevirtual 232), (16, .goto 5), (19, .bipush (-2)), (21, .ireturn)]
theorem co_X12_shown : ∀ q ∈ cd_X12_shown, qw_dec (qw_yb my_X12_shown) q.1 q.2 := fun q h => qw_okb_dec (List.all_eq_true.mp (show cd_X12_shown.all (qw_okb prog_14_method_64_code) = true by decide +kernel) q h)
def my_X12_shownBy : qw_Y := (({ cls := "ShadowTheatreModel", name := "shownBy", desc := "(I)I" } : Jvm.MethodName), prog_14_method_63_code, 6, (Option.some Jvm.ClassFile.FieldType.int), 1, 5, 117)
def cd_X12_shownBy : List (Nat × Instr) := [(0, .iconst (-1)), (1, .istore_n 2), (2, .iconst 0), (3, .istore_n 3), (4, .bipush 19), (6, .istore 4), (8, .iload 4), (10, .ifCond .lt 42), (13, .aload_n 0), (14, .iload 4), (16, .invokevirtual 229), (19, .istore 5), (21, .iload 5), (23, .ifCond .eq 8), (26, .iload 4), (28, .goto 4), (31, .iload_n 2), (32, .istore_n 2), (33, .iload_n 3), (34, .iload 5), (36, .ifCond .eq 7), (39, .iconst 1), (40, .goto 4), (43, .iconst 0), (44, .iadd), (45, .istore_n 3), (46, .iinc 4 (-1)), (49, .goto (-41)), (52, .iload_n 1), (53, .ifCond .ne 7), (56, .iload_n 2), (57, .goto 4), (60, .iload_n 3), (61, .ireturn)]
theorem co_X12_shownBy : ∀ q ∈ cd_X12_shownBy, qw_dec (qw_yb my_X12_shownBy) q.1 q.2 := fun q h => qw_okb_dec (List.all_eq_true.mp (show cd_X12_shownBy.all (qw_okb prog_14_method_63_code) = true by decide +kernel) q h)
def my_X12_stills : qw_Y := (({ cls := "ShadowTheatreModel", name := "stills", desc := "(I)I" } : Jvm.MethodName), prog_14_method_27_code, 3, (Option.some Jvm.ClassFile.FieldType.int), 1, 0, 0)
def cd_X12_stills : List (Nat × Instr) := [(0, .iconst 0), (1, .istore_n 2), (2, .iload_n 2), (3, .bipush 20), (5, .if_icmp .ge 23), (8, .aload_n 0), (9, .getfield 34), (12, .iload_n 2), (13, .iconst (-1)), (14, .iastore), (15, .aload_n 0), (16, .getfield 37), (19, .iload_n 2), (20, .iconst (-1)), (21, .iastore), (22, .iinc 2 1), (25, .goto (-23)), (28, .iload_n 1), (29, .ireturn)]
theorem co_X12_stills : ∀ q ∈ cd_X12_stills, qw_dec (qw_yb my_X12_stills) q.1 q.2 := fun q h => qw_okb_dec (List.all_eq_true.mp (show cd_X12_stills.all (qw_okb prog_14_method_27_code) = true by decide +kernel) q h)
def my_X12_stumble : qw_Y := (({ cls := "ShadowTheatreModel", name := "stumble", desc := "(IIII)J" } : Jvm.MethodName), prog_14_method_92_code, 5, (Option.some Jvm.ClassFile.FieldType.long), 4, 6, 147)
def cd_X12_stumble : List (Nat × Instr) := [(0, .aload_n 0), (1, .invokevirtual 208), (4, .iload_n 1), (5, .i2l), (6, .lconst 0), (7, .ldc2_w 292), (10, .invokestatic 70), (13, .ifCond .eq 42), (16, .iload_n 2), (17, .i2l), (18, .lconst 0), (19, .ldc2_w 152), (22, .invokestatic 70), (25, .ifCond .eq 30), (28, .iload_n 3), (29, .invokestatic 157), (32, .ifCond .eq 23), (35, .iload 4), (37, .invokestatic 160), (40, .ifCond .eq 15), (43, .aload_n 0), (44, .iload_n 1), (45, .iload_n 2), (46, .iload_n 3), (47, .iload 4), (49, .invokevirtual 294), (52, .goto 8), (55, .bipush (-2)), (57, .invokestatic 298), (60, .lreturn)]
theorem co_X12_stumble : ∀ q ∈ cd_X12_stumble, qw_dec (qw_yb my_X12_stumble) q.1 q.2 := fun q h => qw_okb_dec (List.all_eq_true.mp (show cd_X12_stumble.all (qw_okb prog_14_method_92_code) = true by decide +kernel) q h)
def my_X12_stumbleOf : qw_Y := (({ cls := "ShadowTheatreModel", name := "stumbleOf", desc := "(IIII)J" } : Jvm.MethodName), prog_14_method_91_code, 11, (Option.some Jvm.ClassFile.FieldType.long), 4, 5, 117)
def cd_X12_stumbleOf : List (Nat × Instr) := [(0, .lconst 0), (1, .lstore 5), (3, .iconst 0), (4, .istore 7), (6, .iload 7), (8, .iconst 2), (9, .iload_n 2), (10, .ishl), (11, .if_icmp .ge 77), (14, .aload_n 0), (15, .iload 7), (17, .putfield 180), (20, .aload_n 0), (21, .invokevirtual 195), (24, .aload_n 0), (25, .iload_n 3), (26, .invokevirtual 229), (29, .ifCond .eq 53), (32, .lconst 1), (33, .lstore 8), (35, .iconst 0), (36, .istore 10), (38, .iload 10), (40, .iload_n 2), (41, .if_icmp .gt 34), (44, .lload 8), (46, .iload 7), (48, .iload 10), (50, .invokestatic 183), (53, .ifCond .eq 8), (56, .iload_n 1), (57, .i2l), (58, .goto 8), (61, .bipush 16), (63, .iload_n 1), (64, .isub), (65, .i2l), (66, .lmul), (67, .lstore 8), (69, .iinc 10 1), (72, .goto (-34)), (75, .lload 5), (77, .lload 8), (79, .ladd), (80, .lstore 5), (82, .iinc 7 1), (85, .goto (-79)), (88, .aload_n 0), (89, .iconst 0), (90, .putfield 180), (93, .lload 5), (95, .lconst 1), (96, .iconst 4), (97, .iload_n 2), (98, .iconst 1), (99, .iadd), (100, .imul), (101, .lshl), (102, .iload 4), (104, .invokestatic 288), (107, .lreturn)]
theorem co_X12_stumbleOf : ∀ q ∈ cd_X12_stumbleOf, qw_dec (qw_yb my_X12_stumbleOf) q.1 q.2 := fun q h => qw_okb_dec (List.all_eq_true.mp (show cd_X12_stumbleOf.all (qw_okb prog_14_method_91_code) = true by decide +kernel) q h)
def my_X12_tellsAt : qw_Y := (({ cls := "ShadowTheatreModel", name := "tellsAt", desc := "(JII)J" } : Jvm.MethodName), prog_14_method_99_code, 8, (Option.some Jvm.ClassFile.FieldType.long), 3, 3, 76)
def cd_X12_tellsAt : List (Nat × Instr) := [(0, .lload_n 1), (1, .lstore 5), (3, .iconst 0), (4, .istore 7), (6, .iload 7), (8, .iconst 4), (9, .if_icmp .ge 28), (12, .ldc2_w 147), (15, .lload 5), (17, .lmul), (18, .aload_n 0), (19, .iload_n 3), (20, .iload 4), (22, .iload 7), (24, .invokevirtual 217), (27, .i2l), (28, .ladd), (29, .lstore 5), (31, .iinc 7 1), (34, .goto (-28)), (37, .lload 5), (39, .lreturn)]
theorem co_X12_tellsAt : ∀ q ∈ cd_X12_tellsAt, qw_dec (qw_yb my_X12_tellsAt) q.1 q.2 := fun q h => qw_okb_dec (List.all_eq_true.mp (show cd_X12_tellsAt.all (qw_okb prog_14_method_99_code) = true by decide +kernel) q h)
def my_X12_tellsFigure : qw_Y := (({ cls := "ShadowTheatreModel", name := "tellsFigure", desc := "(JI)J" } : Jvm.MethodName), prog_14_method_100_code, 7, (Option.some Jvm.ClassFile.FieldType.long), 2, 6, 147)
def cd_X12_tellsFigure : List (Nat × Instr) := [(0, .aload_n 0), (1, .invokevirtual 195), (4, .lload_n 1), (5, .lstore 4), (7, .iconst 0), (8, .istore 6), (10, .iload 6), (12, .bipush 10), (14, .if_icmp .ge 26), (17, .ldc2_w 147), (20, .lload 4), (22, .lmul), (23, .aload_n 0), (24, .iload_n 3), (25, .iload 6), (27, .invokevirtual 154), (30, .i2l), (31, .ladd), (32, .lstore 4), (34, .iinc 6 1), (37, .goto (-27)), (40, .aload_n 0), (41, .aload_n 0), (42, .lload 4), (44, .bipush 9), (46, .iload_n 3), (47, .invokevirtual 317), (50, .bipush 19), (52, .iload_n 3), (53, .invokevirtual 317), (56, .lstore 4), (58, .iconst 0), (59, .istore 6), (61, .iload 6), (63, .iconst 3), (64, .if_icmp .ge 28), (67, .ldc2_w 147), (70, .lload 4), (72, .lmul), (73, .aload_n 0), (74, .iload_n 3), (75, .bipush 9), (77, .iload 6), (79, .invokevirtual 244), (82, .i2l), (83, .ladd), (84, .lstore 4), (86, .iinc 6 1), (89, .goto (-28)), (92, .ldc2_w 147), (95, .lload 4), (97, .lmul), (98, .aload_n 0), (99, .iload_n 3), (100, .invokevirtual 276), (103, .i2l), (104, .ladd), (105, .lstore 4), (107, .ldc2_w 147), (110, .lload 4), (112, .lmul), (113, .aload_n 0), (114, .iload_n 3), (115, .invokevirtual 279), (118, .i2l), (119, .ladd), (120, .lstore 4), (122, .ldc2_w 147), (125, .lload 4), (127, .lmul), (128, .aload_n 0), (129, .iload_n 3), (130, .invokevirtual 285), (133, .i2l), (134, .ladd), (135, .lreturn)]
theorem co_X12_tellsFigure : ∀ q ∈ cd_X12_tellsFigure, qw_dec (qw_yb my_X12_tellsFigure) q.1 q.2 := fun q h => qw_okb_dec (List.all_eq_true.mp (show cd_X12_tellsFigure.all (qw_okb prog_14_method_100_code) = true by decide +kernel) q h)
def my_X12_tellsStep : qw_Y := (({ cls := "ShadowTheatreModel", name := "tellsStep", desc := "(JI)J" } : Jvm.MethodName), prog_14_method_101_code, 6, (Option.some Jvm.ClassFile.FieldType.long), 2, 7, 164)
def cd_X12_tellsStep : List (Nat × Instr) := [(0, .ldc2_w 147), (3, .lload_n 1), (4, .lmul), (5, .aload_n 0), (6, .iload_n 3), (7, .iconst 0), (8, .invokevirtual 247), (11, .i2l), (12, .ladd), (13, .lstore 4), (15, .ldc2_w 147), (18, .lload 4), (20, .lmul), (21, .aload_n 0), (22, .iload_n 3), (23, .iconst 1), (24, .invokevirtual 247), (27, .i2l), (28, .ladd), (29, .lstore 4), (31, .ldc2_w 147), (34, .lload 4), (36, .lmul), (37, .aload_n 0), (38, .iload_n 3), (39, .iconst (-1)), (40, .invokevirtual 261), (43, .i2l), (44, .ladd), (45, .lstore 4), (47, .ldc2_w 147), (50, .lload 4), (52, .lmul), (53, .aload_n 0), (54, .iload_n 3), (55, .iconst 0), (56, .invokevirtual 261), (59, .i2l), (60, .ladd), (61, .lreturn)]
theorem co_X12_tellsStep : ∀ q ∈ cd_X12_tellsStep, qw_dec (qw_yb my_X12_tellsStep) q.1 q.2 := fun q h => qw_okb_dec (List.all_eq_true.mp (show cd_X12_tellsStep.all (qw_okb prog_14_method_101_code) = true by decide +kernel) q h)
def my_X12_touched : qw_Y := (({ cls := "ShadowTheatreModel", name := "touched", desc := "(I)I" } : Jvm.MethodName), prog_14_method_67_code, 2, (Option.some Jvm.ClassFile.FieldType.int), 1, 5, 116)
def cd_X12_touched : List (Nat × Instr) := [(0, .aload_n 0), (1, .invokevirtual 208), (4, .iload_n 1), (5, .i2l), (6, .lconst 0), (7, .ldc2_w 83), (10, .invokestatic 70), (13, .ifCond .eq 11), (16, .aload_n 0), (17, .iload_n 1), (18, .invokevirtual 238), (21, .goto 5), (24, .bipush (-2)), (26, .ireturn)]
theorem co_X12_touched : ∀ q ∈ cd_X12_touched, qw_dec (qw_yb my_X12_touched) q.1 q.2 := fun q h => qw_okb_dec (List.all_eq_true.mp (show cd_X12_touched.all (qw_okb prog_14_method_67_code) = true by decide +kernel) q h)
def my_X12_touchedBy : qw_Y := (({ cls := "ShadowTheatreModel", name := "touchedBy", desc := "(I)I" } : Jvm.MethodName), prog_14_method_66_code, 5, (Option.some Jvm.ClassFile.FieldType.int), 1, 1, 25)
def cd_X12_touchedBy : List (Nat × Instr) := [(0, .iconst 0), (1, .istore_n 2), (2, .iload_n 2), (3, .bipush 20), (5, .if_icmp .ge 76), (8, .iconst 0), (9, .istore_n 3), (10, .iload_n 3), (11, .aload_n 0), (12, .getfield 109), (15, .if_icmp .ge 60), (18, .iload_n 3), (19, .iconst 1), (20, .iadd), (21, .istore 4), (23, .iload 4), (25, .aload_n 0), (26, .getfield 109), (29, .if_icmp .ge 40), (32, .aload_n 0), (33, .iload_n 2), (34, .iload_n 3), (35, .iload 4), (37, .invokevirtual 235), (40, .ifCond .eq 23), (43, .iload_n 1), (44, .ifCond .ne 7), (47, .iload_n 2), (48, .goto 14), (51, .iload_n 1), (52, .iconst 1), (53, .if_icmp .ne 7), (56, .iload_n 3), (57, .goto 5), (60, .iload 4), (62, .ireturn), (63, .iinc 4 1), (66, .goto (-43)), (69, .iinc 3 1), (72, .goto (-62)), (75, .iinc 2 1), (78, .goto (-76)), (81, .iconst (-1)), (82, .ireturn)]
theorem co_X12_touchedBy : ∀ q ∈ cd_X12_touchedBy, qw_dec (qw_yb my_X12_touchedBy) q.1 q.2 := fun q h => qw_okb_dec (List.all_eq_true.mp (show cd_X12_touchedBy.all (qw_okb prog_14_method_66_code) = true by decide +kernel) q h)
def my_X12_type : qw_Y := (({ cls := "ShadowTheatreModel", name := "type", desc := "(II)I" } : Jvm.MethodName), prog_14_method_20_code, 3, (Option.some Jvm.ClassFile.FieldType.int), 2, 2, 45)
def cd_X12_type : List (Nat × Instr) := [(0, .iload_n 1), (1, .invokestatic 98), (4, .ifCond .eq 15), (7, .iload_n 2), (8, .i2l), (9, .lconst 0), (10, .ldc2_w 101), (13, .invokestatic 70), (16, .ifCond .ne 6), (19, .bipush (-2)), (21, .ireturn), (22, .aload_n 0), (23, .getfield 25), (26, .iload_n 1), (27, .iaload), (28, .iload_n 1), (29, .ifCond .ne 8), (32, .bipush 87), (34, .goto 15), (37, .iload_n 1), (38, .iconst 1), (39, .if_icmp .ne 8), (42, .bipush 40), (44, .goto 5), (47, .bipush 32), (49, .if_icmp .ne 6), (52, .bipush (-4)), (54, .ireturn), (55, .aload_n 0), (56, .getfield 22), (59, .bipush 88), (61, .iload_n 1), (62, .imul), (63, .aload_n 0), (64, .getfield 25), (67, .iload_n 1), (68, .iaload), (69, .iadd), (70, .iload_n 2), (71, .iastore), (72, .aload_n 0), (73, .getfield 25), (76, .iload_n 1), (77, .dup2), (78, .iaload), (79, .iconst 1), (80, .iadd), (81, .iastore), (82, .aload_n 0), (83, .getfield 25), (86, .iload_n 1), (87, .iaload), (88, .ireturn)]
theorem co_X12_type : ∀ q ∈ cd_X12_type, qw_dec (qw_yb my_X12_type) q.1 q.2 := fun q h => qw_okb_dec (List.all_eq_true.mp (show cd_X12_type.all (qw_okb prog_14_method_20_code) = true by decide +kernel) q h)
def my_X12_undo : qw_Y := (({ cls := "ShadowTheatreModel", name := "undo", desc := "(I)I" } : Jvm.MethodName), prog_14_method_22_code, 2, (Option.some Jvm.ClassFile.FieldType.int), 1, 2, 45)
def cd_X12_undo : List (Nat × Instr) := [(0, .iload_n 1), (1, .invokestatic 98), (4, .ifCond .ne 6), (7, .bipush (-2)), (9, .ireturn), (10, .aload_n 0), (11, .getfield 25), (14, .iload_n 1), (15, .iaload), (16, .ifCond .ne 6), (19, .bipush (-3)), (21, .ireturn), (22, .aload_n 0), (23, .getfield 25), (26, .iload_n 1), (27, .dup2), (28, .iaload), (29, .iconst 1), (30, .isub), (31, .iastore), (32, .aload_n 0), (33, .getfield 25), (36, .iload_n 1), (37, .iaload), (38, .ireturn)]
theorem co_X12_undo : ∀ q ∈ cd_X12_undo, qw_dec (qw_yb my_X12_undo) q.1 q.2 := fun q h => qw_okb_dec (List.all_eq_true.mp (show cd_X12_undo.all (qw_okb prog_14_method_22_code) = true by decide +kernel) q h)
def my_X12_was : qw_Y := (({ cls := "ShadowTheatreModel", name := "was", desc := "(II)I" } : Jvm.MethodName), prog_14_method_88_code, 3, (Option.some Jvm.ClassFile.FieldType.int), 2, 6, 141)
def cd_X12_was : List (Nat × Instr) := [(0, .aload_n 0), (1, .invokevirtual 208), (4, .aload_n 0), (5, .iload_n 1), (6, .invokevirtual 149), (9, .ifCond .eq 19), (12, .iload_n 2), (13, .invokestatic 160), (16, .ifCond .eq 12), (19, .aload_n 0), (20, .iload_n 1), (21, .iload_n 2), (22, .invokevirtual 282), (25, .goto 5), (28, .bipush (-2)), (30, .ireturn)]
theorem co_X12_was : ∀ q ∈ cd_X12_was, qw_dec (qw_yb my_X12_was) q.1 q.2 := fun q h => qw_okb_dec (List.all_eq_true.mp (show cd_X12_was.all (qw_okb prog_14_method_88_code) = true by decide +kernel) q h)
def my_X12_wasOf : qw_Y := (({ cls := "ShadowTheatreModel", name := "wasOf", desc := "(II)I" } : Jvm.MethodName), prog_14_method_87_code, 3, (Option.some Jvm.ClassFile.FieldType.int), 2, 5, 119)
def cd_X12_wasOf : List (Nat × Instr) := [(0, .iload_n 2), (1, .ifCond .ne 11), (4, .aload_n 0), (5, .iload_n 1), (6, .invokevirtual 276), (9, .goto 8), (12, .aload_n 0), (13, .iload_n 1), (14, .invokevirtual 279), (17, .ireturn)]
theorem co_X12_wasOf : ∀ q ∈ cd_X12_wasOf, qw_dec (qw_yb my_X12_wasOf) q.1 q.2 := fun q h => qw_okb_dec (List.all_eq_true.mp (show cd_X12_wasOf.all (qw_okb prog_14_method_87_code) = true by decide +kernel) q h)
def my_X12_wayOf : qw_Y := (({ cls := "ShadowTheatreModel", name := "wayOf", desc := "(I)I" } : Jvm.MethodName), prog_14_method_28_code, 1, (Option.some Jvm.ClassFile.FieldType.int), 1, 0, 0)
def cd_X12_wayOf : List (Nat × Instr) := [(0, .iload_n 0), (1, .bipush 108), (3, .if_icmp .ne 7), (6, .iconst 0), (7, .goto 35), (10, .iload_n 0), (11, .bipush 114), (13, .if_icmp .ne 7), (16, .iconst 1), (17, .goto 25), (20, .iload_n 0), (21, .bipush 102), (23, .if_icmp .ne 7), (26, .iconst 2), (27, .goto 15), (30, .iload_n 0), (31, .bipush 98), (33, .if_icmp .ne 7), (36, .iconst 3), (37, .goto 5), (40, .bipush (-9)), (42, .ireturn)]
theorem co_X12_wayOf : ∀ q ∈ cd_X12_wayOf, qw_dec (qw_yb my_X12_wayOf) q.1 q.2 := fun q h => qw_okb_dec (List.all_eq_true.mp (show cd_X12_wayOf.all (qw_okb prog_14_method_28_code) = true by decide +kernel) q h)
def my_X12_wipe : qw_Y := (({ cls := "ShadowTheatreModel", name := "wipe", desc := "(I)I" } : Jvm.MethodName), prog_14_method_21_code, 3, (Option.some Jvm.ClassFile.FieldType.int), 1, 2, 45)
def cd_X12_wipe : List (Nat × Instr) := [(0, .iload_n 1), (1, .invokestatic 98), (4, .ifCond .ne 6), (7, .bipush (-2)), (9, .ireturn), (10, .aload_n 0), (11, .getfield 25), (14, .iload_n 1), (15, .iaload), (16, .istore_n 2), (17, .aload_n 0), (18, .getfield 25), (21, .iload_n 1), (22, .iconst 0), (23, .iastore), (24, .iload_n 2), (25, .ireturn)]
theorem co_X12_wipe : ∀ q ∈ cd_X12_wipe, qw_dec (qw_yb my_X12_wipe) q.1 q.2 := fun q h => qw_okb_dec (List.all_eq_true.mp (show cd_X12_wipe.all (qw_okb prog_14_method_21_code) = true by decide +kernel) q h)
def my_X12_write : qw_Y := (({ cls := "ShadowTheatreModel", name := "write", desc := "(II)I" } : Jvm.MethodName), prog_14_method_96_code, 5, (Option.some Jvm.ClassFile.FieldType.int), 2, 5, 116)
def cd_X12_write : List (Nat × Instr) := [(0, .iload_n 1), (1, .invokestatic 157), (4, .ifCond .eq 10), (7, .iload_n 2), (8, .invokestatic 79), (11, .ifCond .ne 6), (14, .bipush (-2)), (16, .ireturn), (17, .aload_n 0), (18, .getfield 7), (21, .iload_n 2), (22, .iaload), (23, .ifCond .ge 9), (26, .aload_n 0), (27, .iconst 1), (28, .invokevirtual 85), (31, .ireturn), (32, .aload_n 0), (33, .invokevirtual 208), (36, .aload_n 0), (37, .getfield 13), (40, .iload_n 2), (41, .iaload), (42, .bipush 32), (44, .invokestatic 177), (47, .istore_n 3), (48, .iconst 0), (49, .istore 4), (51, .iload 4), (53, .iload_n 3), (54, .if_icmp .ge 37), (57, .aload_n 0), (58, .getfield 16), (61, .bipush 60), (63, .iload_n 2), (64, .imul), (65, .iload 4), (67, .iadd), (68, .aload_n 0), (69, .getfield 7), (72, .iload_n 2), (73, .iaload), (74, .aload_n 0), (75, .iload_n 1), (76, .iload 4), (78, .invokevirtual 211), (81, .invokestatic 93), (84, .iastore), (85, .iinc 4 1), (88, .goto (-37)), (91, .iload_n 3), (92, .ireturn)]
theorem co_X12_write : ∀ q ∈ cd_X12_write, qw_dec (qw_yb my_X12_write) q.1 q.2 := fun q h => qw_okb_dec (List.all_eq_true.mp (show cd_X12_write.all (qw_okb prog_14_method_96_code) = true by decide +kernel) q h)
def my_X1_init : qw_Y := (({ cls := "ShadowTheatre$Cues", name := "<init>", desc := "()V" } : Jvm.MethodName), prog_3_method_1_code, 1, (Option.none : Option Jvm.ClassFile.FieldType), 0, 0, 0)
def my_X1_add : qw_Y := (({ cls := "ShadowTheatre$Cues", name := "add", desc := "(II)V" } : Jvm.MethodName), prog_3_method_5_code, 3, (Option.none : Option Jvm.ClassFile.FieldType), 2, 0, 0)
def cd_X1_add : List (Nat × Instr) := [(0, .aload_n 0), (1, .getfield 35), (4, .ifCond .lt 42), (7, .aload_n 0), (8, .getfield 35), (11, .bipush 20), (13, .if_icmp .ge 33), (16, .aload_n 0), (17, .getfield 9), (20, .aload_n 0), (21, .getfield 35), (24, .iload_n 1), (25, .iastore), (26, .aload_n 0), (27, .getfield 15), (30, .aload_n 0), (31, .getfield 35), (34, .iload_n 2), (35, .iastore), (36, .aload_n 0), (37, .dup), (38, .getfield 35), (41, .iconst 1), (42, .iadd), (43, .putfield 35), (46, .return_)]
theorem co_X1_add : ∀ q ∈ cd_X1_add, qw_dec (qw_yb my_X1_add) q.1 q.2 := fun q h => qw_okb_dec (List.all_eq_true.mp (show cd_X1_add.all (qw_okb prog_3_method_5_code) = true by decide +kernel) q h)
def my_X1_clear : qw_Y := (({ cls := "ShadowTheatre$Cues", name := "clear", desc := "()V" } : Jvm.MethodName), prog_3_method_4_code, 1, (Option.none : Option Jvm.ClassFile.FieldType), 0, 0, 0)
def cd_X1_clear : List (Nat × Instr) := [(0, .aload_n 0), (1, .iconst 0), (2, .putfield 35), (5, .return_)]
theorem co_X1_clear : ∀ q ∈ cd_X1_clear, qw_dec (qw_yb my_X1_clear) q.1 q.2 := fun q h => qw_okb_dec (List.all_eq_true.mp (show cd_X1_clear.all (qw_okb prog_3_method_4_code) = true by decide +kernel) q h)
def my_X1_figureOf : qw_Y := (({ cls := "ShadowTheatre$Cues", name := "figureOf", desc := "(I)I" } : Jvm.MethodName), prog_3_method_6_code, 2, (Option.some Jvm.ClassFile.FieldType.int), 1, 0, 0)
def cd_X1_figureOf : List (Nat × Instr) := [(0, .iload_n 1), (1, .ifCond .lt 26), (4, .iload_n 1), (5, .aload_n 0), (6, .getfield 35), (9, .if_icmp .ge 18), (12, .iload_n 1), (13, .bipush 20), (15, .if_icmp .ge 12), (18, .aload_n 0), (19, .getfield 9), (22, .iload_n 1), (23, .iaload), (24, .goto 4), (27, .iconst (-1)), (28, .ireturn)]
theorem co_X1_figureOf : ∀ q ∈ cd_X1_figureOf, qw_dec (qw_yb my_X1_figureOf) q.1 q.2 := fun q h => qw_okb_dec (List.all_eq_true.mp (show cd_X1_figureOf.all (qw_okb prog_3_method_6_code) = true by decide +kernel) q h)
def my_X1_parse : qw_Y := (({ cls := "ShadowTheatre$Cues", name := "parse", desc := "(LShadowTheatre$Row;)V" } : Jvm.MethodName), prog_3_method_2_code, 3, (Option.none : Option Jvm.ClassFile.FieldType), 1, 8, 182)
def cd_X1_parse : List (Nat × Instr) := [(0, .aload_n 0), (1, .iconst (-1)), (2, .putfield 18), (5, .iconst 0), (6, .istore_n 2), (7, .iload_n 2), (8, .aload_n 1), (9, .getfield 22), (12, .if_icmp .ge 35), (15, .aload_n 0), (16, .getfield 18), (19, .iconst (-1)), (20, .if_icmp .ne 27), (23, .aload_n 0), (24, .iload_n 2), (25, .aload_n 1), (26, .iload_n 2), (27, .invokevirtual 27), (30, .invokevirtual 31), (33, .ifCond .ne 8), (36, .aload_n 0), (37, .iload_n 2), (38, .putfield 18), (41, .iinc 2 1), (44, .goto (-37)), (47, .aload_n 0), (48, .getfield 18), (51, .iconst (-1)), (52, .if_icmp .ne 20), (55, .aload_n 1), (56, .getfield 22), (59, .iconst 2), (60, .irem), (61, .ifCond .eq 11), (64, .aload_n 0), (65, .aload_n 1), (66, .getfield 22), (69, .putfield 18), (72, .aload_n 0), (73, .aload_n 0), (74, .getfield 18), (77, .iconst (-1)), (78, .if_icmp .ne 12), (81, .aload_n 1), (82, .getfield 22), (85, .iconst 2), (86, .idiv), (87, .goto 4), (90, .iconst 0), (91, .putfield 35), (94, .return_)]
theorem co_X1_parse : ∀ q ∈ cd_X1_parse, qw_dec (qw_yb my_X1_parse) q.1 q.2 := fun q h => qw_okb_dec (List.all_eq_true.mp (show cd_X1_parse.all (qw_okb prog_3_method_2_code) = true by decide +kernel) q h)
def my_X1_steps : qw_Y := (({ cls := "ShadowTheatre$Cues", name := "steps", desc := "()I" } : Jvm.MethodName), prog_3_method_8_code, 3, (Option.some Jvm.ClassFile.FieldType.int), 0, 1, 21)
def cd_X1_steps : List (Nat × Instr) := [(0, .iconst 0), (1, .istore_n 1), (2, .iconst 0), (3, .istore_n 2), (4, .iload_n 2), (5, .bipush 20), (7, .if_icmp .ge 24), (10, .aload_n 0), (11, .iload_n 2), (12, .invokevirtual 43), (15, .iconst (-1)), (16, .if_icmp .eq 9), (19, .iload_n 1), (20, .iconst 1), (21, .iload_n 2), (22, .ishl), (23, .ior), (24, .istore_n 1), (25, .iinc 2 1), (28, .goto (-24)), (31, .iload_n 1), (32, .ireturn)]
theorem co_X1_steps : ∀ q ∈ cd_X1_steps, qw_dec (qw_yb my_X1_steps) q.1 q.2 := fun q h => qw_okb_dec (List.all_eq_true.mp (show cd_X1_steps.all (qw_okb prog_3_method_8_code) = true by decide +kernel) q h)
def my_X1_takes : qw_Y := (({ cls := "ShadowTheatre$Cues", name := "takes", desc := "(II)Z" } : Jvm.MethodName), prog_3_method_3_code, 4, (Option.some Jvm.ClassFile.FieldType.boolean), 2, 7, 159)
def cd_X1_takes : List (Nat × Instr) := [(0, .iload_n 1), (1, .iconst 2), (2, .idiv), (3, .istore_n 3), (4, .iload_n 3), (5, .ifCond .lt 9), (8, .iload_n 3), (9, .bipush 20), (11, .if_icmp .lt 5), (14, .iconst 0), (15, .ireturn), (16, .iload_n 1), (17, .iconst 2), (18, .irem), (19, .ifCond .ne 58), (22, .aload_n 0), (23, .getfield 9), (26, .iload_n 3), (27, .iload_n 2), (28, .bipush 97), (30, .if_icmp .lt 16), (33, .iload_n 2), (34, .bipush 104), (36, .if_icmp .gt 10), (39, .iload_n 2), (40, .bipush 97), (42, .isub), (43, .goto 4), (46, .iconst (-1)), (47, .iastore), (48, .aload_n 0), (49, .getfield 15), (52, .iload_n 3), (53, .iconst (-1)), (54, .iastore), (55, .aload_n 0), (56, .getfield 9), (59, .iload_n 3), (60, .iaload), (61, .iconst (-1)), (62, .if_icmp .ne 9), (65, .iload_n 2), (66, .bipush 46), (68, .if_icmp .ne 7), (71, .iconst 1), (72, .goto 4), (75, .iconst 0), (76, .ireturn), (77, .aload_n 0), (78, .getfield 9), (81, .iload_n 3), (82, .iaload), (83, .iconst (-1)), (84, .if_icmp .ne 15), (87, .iload_n 2), (88, .bipush 46), (90, .if_icmp .ne 7), (93, .iconst 1), (94, .goto 4), (97, .iconst 0), (98, .ireturn), (99, .aload_n 0), (100, .getfield 15), (103, .iload_n 3), (104, .ldc 36), (106, .iload_n 2), (107, .i2c), (108, .invokevirtual 38), (111, .iastore), (112, .aload_n 0), (113, .getfield 15), (116, .iload_n 3), (117, .iaload), (118, .ifCond .lt 7), (121, .iconst 1), (122, .goto 4), (125, .iconst 0), (126, .ireturn)]
theorem co_X1_takes : ∀ q ∈ cd_X1_takes, qw_dec (qw_yb my_X1_takes) q.1 q.2 := fun q h => qw_okb_dec (List.all_eq_true.mp (show cd_X1_takes.all (qw_okb prog_3_method_3_code) = true by decide +kernel) q h)
def my_X1_whitherOf : qw_Y := (({ cls := "ShadowTheatre$Cues", name := "whitherOf", desc := "(I)I" } : Jvm.MethodName), prog_3_method_7_code, 2, (Option.some Jvm.ClassFile.FieldType.int), 1, 0, 0)
def cd_X1_whitherOf : List (Nat × Instr) := [(0, .iload_n 1), (1, .ifCond .lt 26), (4, .iload_n 1), (5, .aload_n 0), (6, .getfield 35), (9, .if_icmp .ge 18), (12, .iload_n 1), (13, .bipush 20), (15, .if_icmp .ge 12), (18, .aload_n 0), (19, .getfield 15), (22, .iload_n 1), (23, .iaload), (24, .goto 4), (27, .iconst (-1)), (28, .ireturn)]
theorem co_X1_whitherOf : ∀ q ∈ cd_X1_whitherOf, qw_dec (qw_yb my_X1_whitherOf) q.1 q.2 := fun q h => qw_okb_dec (List.all_eq_true.mp (show cd_X1_whitherOf.all (qw_okb prog_3_method_7_code) = true by decide +kernel) q h)
def my_X2_init : qw_Y := (({ cls := "ShadowTheatre$Glow", name := "<init>", desc := "()V" } : Jvm.MethodName), prog_4_method_1_code, 1, (Option.none : Option Jvm.ClassFile.FieldType), 0, 0, 0)
def my_X2_become : qw_Y := (({ cls := "ShadowTheatre$Glow", name := "become", desc := "(LShadowTheatre$Glow;)V" } : Jvm.MethodName), prog_4_method_3_code, 2, (Option.none : Option Jvm.ClassFile.FieldType), 1, 0, 0)
def cd_X2_become : List (Nat × Instr) := [(0, .aload_n 0), (1, .aload_n 1), (2, .getfield 9), (5, .putfield 9), (8, .aload_n 0), (9, .aload_n 1), (10, .getfield 15), (13, .putfield 15), (16, .aload_n 0), (17, .aload_n 1), (18, .getfield 18), (21, .putfield 18), (24, .return_)]
theorem co_X2_become : ∀ q ∈ cd_X2_become, qw_dec (qw_yb my_X2_become) q.1 q.2 := fun q h => qw_okb_dec (List.all_eq_true.mp (show cd_X2_become.all (qw_okb prog_4_method_3_code) = true by decide +kernel) q h)
def my_X2_dark : qw_Y := (({ cls := "ShadowTheatre$Glow", name := "dark", desc := "()I" } : Jvm.MethodName), prog_4_method_7_code, 1, (Option.some Jvm.ClassFile.FieldType.int), 0, 1, 20)
def cd_X2_dark : List (Nat × Instr) := [(0, .bipush 32), (2, .aload_n 0), (3, .getfield 9), (6, .aload_n 0), (7, .getfield 15), (10, .ior), (11, .aload_n 0), (12, .getfield 18), (15, .ior), (16, .invokestatic 21), (19, .isub), (20, .ireturn)]
theorem co_X2_dark : ∀ q ∈ cd_X2_dark, qw_dec (qw_yb my_X2_dark) q.1 q.2 := fun q h => qw_okb_dec (List.all_eq_true.mp (show cd_X2_dark.all (qw_okb prog_4_method_7_code) = true by decide +kernel) q h)
def my_X2_dim : qw_Y := (({ cls := "ShadowTheatre$Glow", name := "dim", desc := "(II)V" } : Jvm.MethodName), prog_4_method_5_code, 3, (Option.none : Option Jvm.ClassFile.FieldType), 2, 0, 0)
def cd_X2_dim : List (Nat × Instr) := [(0, .iload_n 2), (1, .iconst 1), (2, .if_icmp .eq 15), (5, .aload_n 0), (6, .dup), (7, .getfield 9), (10, .iload_n 1), (11, .iconst (-1)), (12, .ixor), (13, .iand), (14, .putfield 9), (17, .iload_n 2), (18, .iconst 2), (19, .if_icmp .eq 15), (22, .aload_n 0), (23, .dup), (24, .getfield 15), (27, .iload_n 1), (28, .iconst (-1)), (29, .ixor), (30, .iand), (31, .putfield 15), (34, .iload_n 2), (35, .iconst 3), (36, .if_icmp .eq 15), (39, .aload_n 0), (40, .dup), (41, .getfield 18), (44, .iload_n 1), (45, .iconst (-1)), (46, .ixor), (47, .iand), (48, .putfield 18), (51, .return_)]
theorem co_X2_dim : ∀ q ∈ cd_X2_dim, qw_dec (qw_yb my_X2_dim) q.1 q.2 := fun q h => qw_okb_dec (List.all_eq_true.mp (show cd_X2_dim.all (qw_okb prog_4_method_5_code) = true by decide +kernel) q h)
def my_X2_fill : qw_Y := (({ cls := "ShadowTheatre$Glow", name := "fill", desc := "(I)V" } : Jvm.MethodName), prog_4_method_2_code, 2, (Option.none : Option Jvm.ClassFile.FieldType), 1, 0, 0)
def cd_X2_fill : List (Nat × Instr) := [(0, .aload_n 0), (1, .iload_n 1), (2, .putfield 9), (5, .aload_n 0), (6, .iload_n 1), (7, .putfield 15), (10, .aload_n 0), (11, .iload_n 1), (12, .putfield 18), (15, .return_)]
theorem co_X2_fill : ∀ q ∈ cd_X2_fill, qw_dec (qw_yb my_X2_fill) q.1 q.2 := fun q h => qw_okb_dec (List.all_eq_true.mp (show cd_X2_fill.all (qw_okb prog_4_method_2_code) = true by decide +kernel) q h)
def my_X2_lightOf : qw_Y := (({ cls := "ShadowTheatre$Glow", name := "lightOf", desc := "(I)I" } : Jvm.MethodName), prog_4_method_6_code, 2, (Option.some Jvm.ClassFile.FieldType.int), 1, 0, 0)
def cd_X2_lightOf : List (Nat × Instr) := [(0, .aload_n 0), (1, .getfield 9), (4, .iload_n 1), (5, .iushr), (6, .iconst 1), (7, .iand), (8, .iconst 2), (9, .ishl), (10, .aload_n 0), (11, .getfield 15), (14, .iload_n 1), (15, .iushr), (16, .iconst 1), (17, .iand), (18, .iconst 1), (19, .ishl), (20, .ior), (21, .aload_n 0), (22, .getfield 18), (25, .iload_n 1), (26, .iushr), (27, .iconst 1), (28, .iand), (29, .ior), (30, .ireturn)]
theorem co_X2_lightOf : ∀ q ∈ cd_X2_lightOf, qw_dec (qw_yb my_X2_lightOf) q.1 q.2 := fun q h => qw_okb_dec (List.all_eq_true.mp (show cd_X2_lightOf.all (qw_okb prog_4_method_6_code) = true by decide +kernel) q h)
def my_X2_set : qw_Y := (({ cls := "ShadowTheatre$Glow", name := "set", desc := "(II)V" } : Jvm.MethodName), prog_4_method_4_code, 3, (Option.none : Option Jvm.ClassFile.FieldType), 2, 0, 0)
def cd_X2_set : List (Nat × Instr) := [(0, .aload_n 0), (1, .dup), (2, .getfield 9), (5, .iload_n 2), (6, .iconst 2), (7, .ishr), (8, .iconst 1), (9, .iand), (10, .iload_n 1), (11, .ishl), (12, .ior), (13, .putfield 9), (16, .aload_n 0), (17, .dup), (18, .getfield 15), (21, .iload_n 2), (22, .iconst 1), (23, .ishr), (24, .iconst 1), (25, .iand), (26, .iload_n 1), (27, .ishl), (28, .ior), (29, .putfield 15), (32, .aload_n 0), (33, .dup), (34, .getfield 18), (37, .iload_n 2), (38, .iconst 1), (39, .iand), (40, .iload_n 1), (41, .ishl), (42, .ior), (43, .putfield 18), (46, .return_)]
theorem co_X2_set : ∀ q ∈ cd_X2_set, qw_dec (qw_yb my_X2_set) q.1 q.2 := fun q h => qw_okb_dec (List.all_eq_true.mp (show cd_X2_set.all (qw_okb prog_4_method_4_code) = true by decide +kernel) q h)
def my_X3_init : qw_Y := (({ cls := "ShadowTheatre$Picture", name := "<init>", desc := "()V" } : Jvm.MethodName), prog_5_method_1_code, 1, (Option.none : Option Jvm.ClassFile.FieldType), 0, 1, 20)
def my_X3_falseBy : qw_Y := (({ cls := "ShadowTheatre$Picture", name := "falseBy", desc := "(LShadowTheatre$Glow;)I" } : Jvm.MethodName), prog_5_method_4_code, 3, (Option.some Jvm.ClassFile.FieldType.int), 1, 1, 20)
def cd_X3_falseBy : List (Nat × Instr) := [(0, .aload_n 1), (1, .getfield 45), (4, .aload_n 0), (5, .getfield 12), (8, .getfield 45), (11, .ixor), (12, .aload_n 1), (13, .getfield 48), (16, .aload_n 0), (17, .getfield 12), (20, .getfield 48), (23, .ixor), (24, .ior), (25, .aload_n 1), (26, .getfield 51), (29, .aload_n 0), (30, .getfield 12), (33, .getfield 51), (36, .ixor), (37, .ior), (38, .istore_n 2), (39, .aload_n 0), (40, .getfield 26), (43, .iload_n 2), (44, .iand), (45, .invokestatic 54), (48, .ireturn)]
theorem co_X3_falseBy : ∀ q ∈ cd_X3_falseBy, qw_dec (qw_yb my_X3_falseBy) q.1 q.2 := fun q h => qw_okb_dec (List.all_eq_true.mp (show cd_X3_falseBy.all (qw_okb prog_5_method_4_code) = true by decide +kernel) q h)
def my_X3_isShownBy : qw_Y := (({ cls := "ShadowTheatre$Picture", name := "isShownBy", desc := "(LShadowTheatre$Glow;)Z" } : Jvm.MethodName), prog_5_method_5_code, 2, (Option.some Jvm.ClassFile.FieldType.boolean), 1, 2, 42)
def cd_X3_isShownBy : List (Nat × Instr) := [(0, .aload_n 0), (1, .getfield 26), (4, .ifCond .eq 15), (7, .aload_n 0), (8, .aload_n 1), (9, .invokevirtual 59), (12, .ifCond .ne 7), (15, .iconst 1), (16, .goto 4), (19, .iconst 0), (20, .ireturn)]
theorem co_X3_isShownBy : ∀ q ∈ cd_X3_isShownBy, qw_dec (qw_yb my_X3_isShownBy) q.1 q.2 := fun q h => qw_okb_dec (List.all_eq_true.mp (show cd_X3_isShownBy.all (qw_okb prog_5_method_5_code) = true by decide +kernel) q h)
def my_X3_lightOf : qw_Y := (({ cls := "ShadowTheatre$Picture", name := "lightOf", desc := "(I)I" } : Jvm.MethodName), prog_5_method_3_code, 2, (Option.some Jvm.ClassFile.FieldType.int), 1, 1, 21)
def cd_X3_lightOf : List (Nat × Instr) := [(0, .aload_n 0), (1, .getfield 26), (4, .iload_n 1), (5, .iushr), (6, .iconst 1), (7, .iand), (8, .ifCond .eq 14), (11, .aload_n 0), (12, .getfield 12), (15, .iload_n 1), (16, .invokevirtual 42), (19, .goto 4), (22, .iconst (-1)), (23, .ireturn)]
theorem co_X3_lightOf : ∀ q ∈ cd_X3_lightOf, qw_dec (qw_yb my_X3_lightOf) q.1 q.2 := fun q h => qw_okb_dec (List.all_eq_true.mp (show cd_X3_lightOf.all (qw_okb prog_5_method_3_code) = true by decide +kernel) q h)
def my_X3_parse : qw_Y := (({ cls := "ShadowTheatre$Picture", name := "parse", desc := "(LShadowTheatre$Row;)V" } : Jvm.MethodName), prog_5_method_2_code, 4, (Option.none : Option Jvm.ClassFile.FieldType), 1, 1, 22)
def cd_X3_parse : List (Nat × Instr) := [(0, .aload_n 0), (1, .iconst (-1)), (2, .putfield 18), (5, .aload_n 0), (6, .getfield 12), (9, .iconst 0), (10, .invokevirtual 22), (13, .aload_n 0), (14, .iconst 0), (15, .putfield 26), (18, .iconst 0), (19, .istore_n 2), (20, .iload_n 2), (21, .aload_n 1), (22, .getfield 29), (25, .if_icmp .ge 73), (28, .aload_n 0), (29, .getfield 18), (32, .iconst (-1)), (33, .if_icmp .ne 65), (36, .aload_n 1), (37, .iload_n 2), (38, .invokevirtual 34), (41, .istore_n 3), (42, .iload_n 3), (43, .bipush 48), (45, .if_icmp .lt 36), (48, .iload_n 3), (49, .bipush 55), (51, .if_icmp .gt 30), (54, .aload_n 0), (55, .dup), (56, .getfield 26), (59, .iconst 1), (60, .iload_n 2), (61, .ishl), (62, .ior), (63, .putfield 26), (66, .aload_n 0), (67, .getfield 12), (70, .iload_n 2), (71, .iload_n 3), (72, .bipush 48), (74, .isub), (75, .invokevirtual 38), (78, .goto 14), (81, .iload_n 3), (82, .bipush 46), (84, .if_icmp .eq 8), (87, .aload_n 0), (88, .iload_n 2), (89, .putfield 18), (92, .iinc 2 1), (95, .goto (-75)), (98, .aload_n 0), (99, .getfield 18), (102, .iconst (-1)), (103, .if_icmp .eq 8), (106, .aload_n 0), (107, .iconst 0), (108, .putfield 26), (111, .return_)]
theorem co_X3_parse : ∀ q ∈ cd_X3_parse, qw_dec (qw_yb my_X3_parse) q.1 q.2 := fun q h => qw_okb_dec (List.all_eq_true.mp (show cd_X3_parse.all (qw_okb prog_5_method_2_code) = true by decide +kernel) q h)
def my_X4_init : qw_Y := (({ cls := "ShadowTheatre$Planner", name := "<init>", desc := "(LShadowTheatre$Show;)V" } : Jvm.MethodName), prog_6_method_1_code, 2, (Option.none : Option Jvm.ClassFile.FieldType), 1, 1, 20)
def my_X4_answer : qw_Y := (({ cls := "ShadowTheatre$Planner", name := "answer", desc := "(I)I" } : Jvm.MethodName), prog_6_method_2_code, 2, (Option.some Jvm.ClassFile.FieldType.int), 1, 0, 0)
def cd_X4_answer : List (Nat × Instr) := [(0, .iload_n 1), (1, .ifCond .lt 21), (4, .iload_n 1), (5, .aload_n 0), (6, .getfield 25), (9, .arraylength), (10, .if_icmp .ge 12), (13, .aload_n 0), (14, .getfield 25), (17, .iload_n 1), (18, .iaload), (19, .goto 4), (22, .iconst (-1)), (23, .ireturn)]
theorem co_X4_answer : ∀ q ∈ cd_X4_answer, qw_dec (qw_yb my_X4_answer) q.1 q.2 := fun q h => qw_okb_dec (List.all_eq_true.mp (show cd_X4_answer.all (qw_okb prog_6_method_2_code) = true by decide +kernel) q h)
def my_X4_decide : qw_Y := (({ cls := "ShadowTheatre$Planner", name := "decide", desc := "(III)V" } : Jvm.MethodName), prog_6_method_3_code, 4, (Option.none : Option Jvm.ClassFile.FieldType), 3, 0, 0)
def cd_X4_decide : List (Nat × Instr) := [(0, .aload_n 0), (1, .getfield 25), (4, .iconst 0), (5, .iload_n 1), (6, .iastore), (7, .aload_n 0), (8, .getfield 25), (11, .iconst 1), (12, .iload_n 2), (13, .iastore), (14, .aload_n 0), (15, .getfield 25), (18, .iconst 2), (19, .iload_n 3), (20, .iastore), (21, .return_)]
theorem co_X4_decide : ∀ q ∈ cd_X4_decide, qw_dec (qw_yb my_X4_decide) q.1 q.2 := fun q h => qw_okb_dec (List.all_eq_true.mp (show cd_X4_decide.all (qw_okb prog_6_method_3_code) = true by decide +kernel) q h)
def my_X4_findEnds : qw_Y := (({ cls := "ShadowTheatre$Planner", name := "findEnds", desc := "(II)V" } : Jvm.MethodName), prog_6_method_5_code, 5, (Option.none : Option Jvm.ClassFile.FieldType), 2, 3, 66)
def cd_X4_findEnds : List (Nat × Instr) := [(0, .iconst 0), (1, .istore_n 3), (2, .iload_n 3), (3, .bipush 32), (5, .if_icmp .ge 68), (8, .iload_n 3), (9, .iconst 1), (10, .iadd), (11, .bipush 8), (13, .invokestatic 78), (16, .istore 4), (18, .aload_n 0), (19, .getfield 38), (22, .iload_n 1), (23, .iload 4), (25, .iload_n 3), (26, .invokevirtual 68), (29, .aload_n 0), (30, .getfield 28), (33, .iload_n 2), (34, .iconst 0), (35, .invokevirtual 84), (38, .aload_n 0), (39, .getfield 18), (42, .iload 4), (44, .aload_n 0), (45, .getfield 38), (48, .iload_n 1), (49, .invokevirtual 87), (52, .iastore), (53, .aload_n 0), (54, .getfield 22), (57, .iload_n 3), (58, .aload_n 0), (59, .getfield 38), (62, .iload_n 1), (63, .invokevirtual 91), (66, .iastore), (67, .iinc 3 1), (70, .goto (-68)), (73, .return_)]
theorem co_X4_findEnds : ∀ q ∈ cd_X4_findEnds, qw_dec (qw_yb my_X4_findEnds) q.1 q.2 := fun q h => qw_okb_dec (List.all_eq_true.mp (show cd_X4_findEnds.all (qw_okb prog_6_method_5_code) = true by decide +kernel) q h)
def my_X4_isShownAfter : qw_Y := (({ cls := "ShadowTheatre$Planner", name := "isShownAfter", desc := "(II)Z" } : Jvm.MethodName), prog_6_method_8_code, 9, (Option.some Jvm.ClassFile.FieldType.boolean), 2, 4, 83)
def cd_X4_isShownAfter : List (Nat × Instr) := [(0, .iload_n 1), (1, .iconst 4), (2, .idiv), (3, .istore_n 3), (4, .iload_n 2), (5, .iconst (-1)), (6, .if_icmp .ne 7), (9, .iload_n 3), (10, .goto 6), (13, .iload_n 2), (14, .iconst 4), (15, .idiv), (16, .istore 4), (18, .aload_n 0), (19, .getfield 38), (22, .iload_n 3), (23, .invokevirtual 87), (26, .istore 5), (28, .aload_n 0), (29, .getfield 38), (32, .iload_n 3), (33, .invokevirtual 91), (36, .istore 6), (38, .aload_n 0), (39, .getfield 38), (42, .iload 4), (44, .invokevirtual 87), (47, .istore 7), (49, .aload_n 0), (50, .getfield 38), (53, .iload 4), (55, .invokevirtual 91), (58, .istore 8), (60, .aload_n 0), (61, .getfield 38), (64, .iload_n 3), (65, .iload_n 1), (66, .iconst 4), (67, .irem), (68, .invokevirtual 118), (71, .iload_n 2), (72, .iconst (-1)), (73, .if_icmp .eq 15), (76, .aload_n 0), (77, .getfield 38), (80, .iload 4), (82, .iload_n 2), (83, .iconst 4), (84, .irem), (85, .invokevirtual 118), (88, .aload_n 0), (89, .getfield 38), (92, .aload_n 0), (93, .getfield 28), (96, .bipush 19), (98, .invokevirtual 47), (101, .iconst 0), (102, .invokevirtual 51), (105, .aload_n 0), (106, .getfield 38), (109, .iload_n 3), (110, .iload 5), (112, .iload 6), (114, .invokevirtual 68), (117, .aload_n 0), (118, .getfield 38), (121, .iload 4), (123, .iload 7), (125, .iload 8), (127, .invokevirtual 68), (130, .aload_n 0), (131, .getfield 28), (134, .invokevirtual 101), (137, .ireturn)]
theorem co_X4_isShownAfter : ∀ q ∈ cd_X4_isShownAfter, qw_dec (qw_yb my_X4_isShownAfter) q.1 q.2 := fun q h => qw_okb_dec (List.all_eq_true.mp (show cd_X4_isShownAfter.all (qw_okb prog_6_method_8_code) = true by decide +kernel) q h)
def my_X4_isShownWithout : qw_Y := (({ cls := "ShadowTheatre$Planner", name := "isShownWithout", desc := "(II)Z" } : Jvm.MethodName), prog_6_method_10_code, 3, (Option.some Jvm.ClassFile.FieldType.boolean), 2, 4, 83)
def cd_X4_isShownWithout : List (Nat × Instr) := [(0, .aload_n 0), (1, .getfield 38), (4, .aload_n 0), (5, .getfield 28), (8, .iload_n 2), (9, .invokevirtual 47), (12, .iload_n 1), (13, .invokevirtual 51), (16, .aload_n 0), (17, .getfield 28), (20, .invokevirtual 101), (23, .ireturn)]
theorem co_X4_isShownWithout : ∀ q ∈ cd_X4_isShownWithout, qw_dec (qw_yb my_X4_isShownWithout) q.1 q.2 := fun q h => qw_okb_dec (List.all_eq_true.mp (show cd_X4_isShownWithout.all (qw_okb prog_6_method_10_code) = true by decide +kernel) q h)
def my_X4_planHang : qw_Y := (({ cls := "ShadowTheatre$Planner", name := "planHang", desc := "(II)V" } : Jvm.MethodName), prog_6_method_4_code, 5, (Option.none : Option Jvm.ClassFile.FieldType), 2, 4, 90)
def cd_X4_planHang : List (Nat × Instr) := [(0, .aload_n 0), (1, .iload_n 1), (2, .iload_n 2), (3, .invokevirtual 39), (6, .aload_n 0), (7, .getfield 28), (10, .iload_n 2), (11, .invokevirtual 43), (14, .aload_n 0), (15, .getfield 38), (18, .aload_n 0), (19, .getfield 28), (22, .iload_n 2), (23, .invokevirtual 47), (26, .iconst 1), (27, .iload_n 1), (28, .ishl), (29, .invokevirtual 51), (32, .aload_n 0), (33, .getfield 12), (36, .aload_n 0), (37, .getfield 38), (40, .getfield 57), (43, .invokevirtual 60), (46, .aload_n 0), (47, .iconst (-1)), (48, .iconst (-1)), (49, .bipush 33), (51, .invokevirtual 64), (54, .iconst 1), (55, .istore_n 3), (56, .iload_n 3), (57, .bipush 8), (59, .if_icmp .gt 98), (62, .iconst 0), (63, .istore 4), (65, .iload 4), (67, .bipush 32), (69, .if_icmp .ge 82), (72, .aload_n 0), (73, .getfield 38), (76, .iload_n 1), (77, .aload_n 0), (78, .getfield 18), (81, .iload_n 3), (82, .iaload), (83, .aload_n 0), (84, .getfield 22), (87, .iload 4), (89, .iaload), (90, .invokevirtual 68), (93, .aload_n 0), (94, .getfield 38), (97, .getfield 57), (100, .aload_n 0), (101, .getfield 12), (104, .invokevirtual 60), (107, .aload_n 0), (108, .getfield 38), (111, .iload_n 1), (112, .invokevirtual 71), (115, .aload_n 0), (116, .getfield 28), (119, .invokevirtual 74), (122, .aload_n 0), (123, .getfield 25), (126, .iconst 2), (127, .iaload), (128, .if_icmp .ge 17), (131, .aload_n 0), (132, .iload_n 3), (133, .iload 4), (135, .aload_n 0), (136, .getfield 28), (139, .invokevirtual 74), (142, .invokevirtual 64), (145, .iinc 4 1), (148, .goto (-83)), (151, .iinc 3 1), (154, .goto (-98)), (157, .return_)]
theorem co_X4_planHang : ∀ q ∈ cd_X4_planHang, qw_dec (qw_yb my_X4_planHang) q.1 q.2 := fun q h => qw_okb_dec (List.all_eq_true.mp (show cd_X4_planHang.all (qw_okb prog_6_method_4_code) = true by decide +kernel) q h)
def my_X4_planLeave : qw_Y := (({ cls := "ShadowTheatre$Planner", name := "planLeave", desc := "(I)V" } : Jvm.MethodName), prog_6_method_9_code, 5, (Option.none : Option Jvm.ClassFile.FieldType), 1, 5, 105)
def cd_X4_planLeave : List (Nat × Instr) := [(0, .aload_n 0), (1, .iconst (-1)), (2, .iconst (-1)), (3, .iconst (-1)), (4, .invokevirtual 64), (7, .aload_n 0), (8, .getfield 28), (11, .iload_n 1), (12, .invokevirtual 43), (15, .aload_n 0), (16, .getfield 28), (19, .getfield 105), (22, .getfield 109), (25, .istore_n 2), (26, .aload_n 0), (27, .iconst 0), (28, .iload_n 1), (29, .invokevirtual 121), (32, .ifCond .eq 11), (35, .aload_n 0), (36, .iconst 0), (37, .iconst (-1)), (38, .iconst (-1)), (39, .invokevirtual 64), (42, .return_), (43, .iconst 0), (44, .istore_n 3), (45, .iload_n 3), (46, .iload_n 2), (47, .if_icmp .ge 28), (50, .aload_n 0), (51, .iconst 1), (52, .iload_n 3), (53, .ishl), (54, .iload_n 1), (55, .invokevirtual 121), (58, .ifCond .eq 11), (61, .aload_n 0), (62, .iconst 1), (63, .iload_n 3), (64, .iconst (-1)), (65, .invokevirtual 64), (68, .return_), (69, .iinc 3 1), (72, .goto (-27)), (75, .iconst 0), (76, .istore_n 3), (77, .iload_n 3), (78, .iload_n 2), (79, .if_icmp .ge 51), (82, .iload_n 3), (83, .iconst 1), (84, .iadd), (85, .istore 4), (87, .iload 4), (89, .iload_n 2), (90, .if_icmp .ge 34), (93, .aload_n 0), (94, .iconst 1), (95, .iload_n 3), (96, .ishl), (97, .iconst 1), (98, .iload 4), (100, .ishl), (101, .ior), (102, .iload_n 1), (103, .invokevirtual 121), (106, .ifCond .eq 12), (109, .aload_n 0), (110, .iconst 2), (111, .iload_n 3), (112, .iload 4), (114, .invokevirtual 64), (117, .return_), (118, .iinc 4 1), (121, .goto (-34)), (124, .iinc 3 1), (127, .goto (-50)), (130, .return_)]
theorem co_X4_planLeave : ∀ q ∈ cd_X4_planLeave, qw_dec (qw_yb my_X4_planLeave) q.1 q.2 := fun q h => qw_okb_dec (List.all_eq_true.mp (show cd_X4_planLeave.all (qw_okb prog_6_method_9_code) = true by decide +kernel) q h)
def my_X4_planMore : qw_Y := (({ cls := "ShadowTheatre$Planner", name := "planMore", desc := "()V" } : Jvm.MethodName), prog_6_method_7_code, 4, (Option.none : Option Jvm.ClassFile.FieldType), 0, 5, 111)
def cd_X4_planMore : List (Nat × Instr) := [(0, .aload_n 0), (1, .iconst (-1)), (2, .iconst (-1)), (3, .iconst (-1)), (4, .invokevirtual 64), (7, .aload_n 0), (8, .getfield 28), (11, .bipush 19), (13, .invokevirtual 98), (16, .aload_n 0), (17, .getfield 28), (20, .invokevirtual 101), (23, .ifCond .eq 11), (26, .aload_n 0), (27, .iconst 0), (28, .iconst (-1)), (29, .iconst (-1)), (30, .invokevirtual 64), (33, .return_), (34, .iconst 4), (35, .aload_n 0), (36, .getfield 28), (39, .getfield 105), (42, .getfield 109), (45, .imul), (46, .istore_n 1), (47, .iconst 0), (48, .istore_n 2), (49, .iload_n 2), (50, .iload_n 1), (51, .if_icmp .ge 26), (54, .aload_n 0), (55, .iload_n 2), (56, .iconst (-1)), (57, .invokevirtual 114), (60, .ifCond .eq 11), (63, .aload_n 0), (64, .iconst 1), (65, .iload_n 2), (66, .iconst (-1)), (67, .invokevirtual 64), (70, .return_), (71, .iinc 2 1), (74, .goto (-25)), (77, .iconst 0), (78, .istore_n 2), (79, .iload_n 2), (80, .iload_n 1), (81, .if_icmp .ge 39), (84, .iconst 0), (85, .istore_n 3), (86, .iload_n 3), (87, .iload_n 1), (88, .if_icmp .ge 26), (91, .aload_n 0), (92, .iload_n 2), (93, .iload_n 3), (94, .invokevirtual 114), (97, .ifCond .eq 11), (100, .aload_n 0), (101, .iconst 2), (102, .iload_n 2), (103, .iload_n 3), (104, .invokevirtual 64), (107, .return_), (108, .iinc 3 1), (111, .goto (-25)), (114, .iinc 2 1), (117, .goto (-38)), (120, .return_)]
theorem co_X4_planMore : ∀ q ∈ cd_X4_planMore, qw_dec (qw_yb my_X4_planMore) q.1 q.2 := fun q h => qw_okb_dec (List.all_eq_true.mp (show cd_X4_planMore.all (qw_okb prog_6_method_7_code) = true by decide +kernel) q h)
def my_X4_planShift : qw_Y := (({ cls := "ShadowTheatre$Planner", name := "planShift", desc := "(I)V" } : Jvm.MethodName), prog_6_method_6_code, 3, (Option.none : Option Jvm.ClassFile.FieldType), 1, 4, 87)
def cd_X4_planShift : List (Nat × Instr) := [(0, .aload_n 0), (1, .getfield 28), (4, .iload_n 1), (5, .invokevirtual 43), (8, .aload_n 0), (9, .iconst (-1)), (10, .bipush 33), (12, .iconst (-1)), (13, .invokevirtual 64), (16, .iconst 0), (17, .istore_n 2), (18, .iload_n 2), (19, .bipush 32), (21, .if_icmp .ge 62), (24, .aload_n 0), (25, .getfield 38), (28, .iload_n 2), (29, .putfield 94), (32, .aload_n 0), (33, .getfield 38), (36, .aload_n 0), (37, .getfield 28), (40, .iload_n 1), (41, .invokevirtual 47), (44, .iconst 0), (45, .invokevirtual 51), (48, .aload_n 0), (49, .getfield 28), (52, .invokevirtual 74), (55, .aload_n 0), (56, .getfield 25), (59, .iconst 1), (60, .iaload), (61, .if_icmp .ge 16), (64, .aload_n 0), (65, .iload_n 2), (66, .aload_n 0), (67, .getfield 28), (70, .invokevirtual 74), (73, .iconst (-1)), (74, .invokevirtual 64), (77, .iinc 2 1), (80, .goto (-62)), (83, .return_)]
theorem co_X4_planShift : ∀ q ∈ cd_X4_planShift, qw_dec (qw_yb my_X4_planShift) q.1 q.2 := fun q h => qw_okb_dec (List.all_eq_true.mp (show cd_X4_planShift.all (qw_okb prog_6_method_6_code) = true by decide +kernel) q h)
def my_X5_init : qw_Y := (({ cls := "ShadowTheatre$Row", name := "<init>", desc := "(I)V" } : Jvm.MethodName), prog_7_method_1_code, 2, (Option.none : Option Jvm.ClassFile.FieldType), 1, 1, 21)
def my_X5_add : qw_Y := (({ cls := "ShadowTheatre$Row", name := "add", desc := "(I)I" } : Jvm.MethodName), prog_7_method_3_code, 2, (Option.some Jvm.ClassFile.FieldType.int), 1, 0, 0)
def cd_X5_add : List (Nat × Instr) := [(0, .aload_n 0), (1, .getfield 21), (4, .ifCond .lt 35), (7, .aload_n 0), (8, .getfield 21), (11, .aload_n 0), (12, .getfield 15), (15, .arraylength), (16, .if_icmp .ge 23), (19, .aload_n 0), (20, .getfield 15), (23, .aload_n 0), (24, .getfield 21), (27, .iload_n 1), (28, .iastore), (29, .aload_n 0), (30, .dup), (31, .getfield 21), (34, .iconst 1), (35, .iadd), (36, .putfield 21), (39, .aload_n 0), (40, .getfield 21), (43, .ireturn)]
theorem co_X5_add : ∀ q ∈ cd_X5_add, qw_dec (qw_yb my_X5_add) q.1 q.2 := fun q h => qw_okb_dec (List.all_eq_true.mp (show cd_X5_add.all (qw_okb prog_7_method_3_code) = true by decide +kernel) q h)
def my_X5_clear : qw_Y := (({ cls := "ShadowTheatre$Row", name := "clear", desc := "()I" } : Jvm.MethodName), prog_7_method_5_code, 2, (Option.some Jvm.ClassFile.FieldType.int), 0, 0, 0)
def cd_X5_clear : List (Nat × Instr) := [(0, .aload_n 0), (1, .getfield 21), (4, .istore_n 1), (5, .aload_n 0), (6, .iconst 0), (7, .putfield 21), (10, .iload_n 1), (11, .ireturn)]
theorem co_X5_clear : ∀ q ∈ cd_X5_clear, qw_dec (qw_yb my_X5_clear) q.1 q.2 := fun q h => qw_okb_dec (List.all_eq_true.mp (show cd_X5_clear.all (qw_okb prog_7_method_5_code) = true by decide +kernel) q h)
def my_X5_drop : qw_Y := (({ cls := "ShadowTheatre$Row", name := "drop", desc := "()I" } : Jvm.MethodName), prog_7_method_4_code, 1, (Option.some Jvm.ClassFile.FieldType.int), 0, 0, 0)
def cd_X5_drop : List (Nat × Instr) := [(0, .aload_n 0), (1, .getfield 21), (4, .ifCond .le 13), (7, .aload_n 0), (8, .dup), (9, .getfield 21), (12, .iconst 1), (13, .isub), (14, .putfield 21), (17, .aload_n 0), (18, .getfield 21), (21, .ireturn)]
theorem co_X5_drop : ∀ q ∈ cd_X5_drop, qw_dec (qw_yb my_X5_drop) q.1 q.2 := fun q h => qw_okb_dec (List.all_eq_true.mp (show cd_X5_drop.all (qw_okb prog_7_method_4_code) = true by decide +kernel) q h)
def my_X5_isFull : qw_Y := (({ cls := "ShadowTheatre$Row", name := "isFull", desc := "()Z" } : Jvm.MethodName), prog_7_method_2_code, 1, (Option.some Jvm.ClassFile.FieldType.boolean), 0, 0, 0)
def cd_X5_isFull : List (Nat × Instr) := [(0, .aload_n 0), (1, .getfield 21), (4, .aload_n 0), (5, .getfield 15), (8, .arraylength), (9, .if_icmp .lt 7), (12, .iconst 1), (13, .goto 4), (16, .iconst 0), (17, .ireturn)]
theorem co_X5_isFull : ∀ q ∈ cd_X5_isFull, qw_dec (qw_yb my_X5_isFull) q.1 q.2 := fun q h => qw_okb_dec (List.all_eq_true.mp (show cd_X5_isFull.all (qw_okb prog_7_method_2_code) = true by decide +kernel) q h)
def my_X5_item : qw_Y := (({ cls := "ShadowTheatre$Row", name := "item", desc := "(I)I" } : Jvm.MethodName), prog_7_method_6_code, 2, (Option.some Jvm.ClassFile.FieldType.int), 1, 0, 0)
def cd_X5_item : List (Nat × Instr) := [(0, .iload_n 1), (1, .ifCond .lt 29), (4, .iload_n 1), (5, .aload_n 0), (6, .getfield 21), (9, .if_icmp .ge 21), (12, .iload_n 1), (13, .aload_n 0), (14, .getfield 15), (17, .arraylength), (18, .if_icmp .ge 12), (21, .aload_n 0), (22, .getfield 15), (25, .iload_n 1), (26, .iaload), (27, .goto 4), (30, .iconst (-1)), (31, .ireturn)]
theorem co_X5_item : ∀ q ∈ cd_X5_item, qw_dec (qw_yb my_X5_item) q.1 q.2 := fun q h => qw_okb_dec (List.all_eq_true.mp (show cd_X5_item.all (qw_okb prog_7_method_6_code) = true by decide +kernel) q h)
def my_X6_init : qw_Y := (({ cls := "ShadowTheatre$Sheet", name := "<init>", desc := "()V" } : Jvm.MethodName), prog_8_method_1_code, 1, (Option.none : Option Jvm.ClassFile.FieldType), 0, 0, 0)
def my_X6_drop : qw_Y := (({ cls := "ShadowTheatre$Sheet", name := "drop", desc := "()I" } : Jvm.MethodName), prog_8_method_5_code, 2, (Option.some Jvm.ClassFile.FieldType.int), 0, 0, 0)
def cd_X6_drop : List (Nat × Instr) := [(0, .aload_n 0), (1, .getfield 19), (4, .istore_n 1), (5, .aload_n 0), (6, .iconst (-1)), (7, .putfield 15), (10, .aload_n 0), (11, .iconst 0), (12, .putfield 19), (15, .iload_n 1), (16, .ireturn)]
theorem co_X6_drop : ∀ q ∈ cd_X6_drop, qw_dec (qw_yb my_X6_drop) q.1 q.2 := fun q h => qw_okb_dec (List.all_eq_true.mp (show cd_X6_drop.all (qw_okb prog_8_method_5_code) = true by decide +kernel) q h)
def my_X6_has : qw_Y := (({ cls := "ShadowTheatre$Sheet", name := "has", desc := "(I)Z" } : Jvm.MethodName), prog_8_method_3_code, 2, (Option.some Jvm.ClassFile.FieldType.boolean), 1, 0, 0)
def cd_X6_has : List (Nat × Instr) := [(0, .iload_n 1), (1, .ifCond .lt 21), (4, .iload_n 1), (5, .aload_n 0), (6, .getfield 19), (9, .if_icmp .ge 13), (12, .iload_n 1), (13, .bipush 60), (15, .if_icmp .ge 7), (18, .iconst 1), (19, .goto 4), (22, .iconst 0), (23, .ireturn)]
theorem co_X6_has : ∀ q ∈ cd_X6_has, qw_dec (qw_yb my_X6_has) q.1 q.2 := fun q h => qw_okb_dec (List.all_eq_true.mp (show cd_X6_has.all (qw_okb prog_8_method_3_code) = true by decide +kernel) q h)
def my_X6_hasRun : qw_Y := (({ cls := "ShadowTheatre$Sheet", name := "hasRun", desc := "(II)Z" } : Jvm.MethodName), prog_8_method_8_code, 3, (Option.some Jvm.ClassFile.FieldType.boolean), 2, 0, 0)
def cd_X6_hasRun : List (Nat × Instr) := [(0, .iload_n 1), (1, .ifCond .lt 29), (4, .iload_n 2), (5, .ifCond .lt 25), (8, .iload_n 1), (9, .aload_n 0), (10, .getfield 19), (13, .if_icmp .gt 17), (16, .iload_n 2), (17, .aload_n 0), (18, .getfield 19), (21, .iload_n 1), (22, .isub), (23, .if_icmp .gt 7), (26, .iconst 1), (27, .goto 4), (30, .iconst 0), (31, .ireturn)]
theorem co_X6_hasRun : ∀ q ∈ cd_X6_hasRun, qw_dec (qw_yb my_X6_hasRun) q.1 q.2 := fun q h => qw_okb_dec (List.all_eq_true.mp (show cd_X6_hasRun.all (qw_okb prog_8_method_8_code) = true by decide +kernel) q h)
def my_X6_isLost : qw_Y := (({ cls := "ShadowTheatre$Sheet", name := "isLost", desc := "()Z" } : Jvm.MethodName), prog_8_method_2_code, 1, (Option.some Jvm.ClassFile.FieldType.boolean), 0, 0, 0)
def cd_X6_isLost : List (Nat × Instr) := [(0, .aload_n 0), (1, .getfield 15), (4, .iconst (-1)), (5, .if_icmp .ne 7), (8, .iconst 1), (9, .goto 4), (12, .iconst 0), (13, .ireturn)]
theorem co_X6_isLost : ∀ q ∈ cd_X6_isLost, qw_dec (qw_yb my_X6_isLost) q.1 q.2 := fun q h => qw_okb_dec (List.all_eq_true.mp (show cd_X6_isLost.all (qw_okb prog_8_method_2_code) = true by decide +kernel) q h)
def my_X6_item : qw_Y := (({ cls := "ShadowTheatre$Sheet", name := "item", desc := "(I)I" } : Jvm.MethodName), prog_8_method_7_code, 2, (Option.some Jvm.ClassFile.FieldType.int), 1, 1, 21)
def cd_X6_item : List (Nat × Instr) := [(0, .aload_n 0), (1, .iload_n 1), (2, .invokevirtual 28), (5, .ifCond .eq 12), (8, .aload_n 0), (9, .getfield 9), (12, .iload_n 1), (13, .iaload), (14, .goto 4), (17, .iconst 0), (18, .ireturn)]
theorem co_X6_item : ∀ q ∈ cd_X6_item, qw_dec (qw_yb my_X6_item) q.1 q.2 := fun q h => qw_okb_dec (List.all_eq_true.mp (show cd_X6_item.all (qw_okb prog_8_method_7_code) = true by decide +kernel) q h)
def my_X6_put : qw_Y := (({ cls := "ShadowTheatre$Sheet", name := "put", desc := "(II)V" } : Jvm.MethodName), prog_8_method_6_code, 3, (Option.none : Option Jvm.ClassFile.FieldType), 2, 1, 21)
def cd_X6_put : List (Nat × Instr) := [(0, .aload_n 0), (1, .iload_n 1), (2, .invokevirtual 28), (5, .ifCond .eq 35), (8, .aload_n 0), (9, .getfield 9), (12, .iload_n 1), (13, .aload_n 0), (14, .getfield 15), (17, .ifCond .ne 8), (20, .iload_n 2), (21, .i2b), (22, .goto 17), (25, .aload_n 0), (26, .getfield 15), (29, .iconst 1), (30, .if_icmp .ne 8), (33, .iload_n 2), (34, .i2s), (35, .goto 4), (38, .iload_n 2), (39, .iastore), (40, .return_)]
theorem co_X6_put : ∀ q ∈ cd_X6_put, qw_dec (qw_yb my_X6_put) q.1 q.2 := fun q h => qw_okb_dec (List.all_eq_true.mp (show cd_X6_put.all (qw_okb prog_8_method_6_code) = true by decide +kernel) q h)
def my_X6_renew : qw_Y := (({ cls := "ShadowTheatre$Sheet", name := "renew", desc := "(II)V" } : Jvm.MethodName), prog_8_method_4_code, 4, (Option.none : Option Jvm.ClassFile.FieldType), 2, 1, 21)
def cd_X6_renew : List (Nat × Instr) := [(0, .aload_n 0), (1, .iload_n 1), (2, .putfield 15), (5, .aload_n 0), (6, .iload_n 2), (7, .bipush 60), (9, .invokestatic 22), (12, .putfield 19), (15, .iconst 0), (16, .istore_n 3), (17, .iload_n 3), (18, .bipush 60), (20, .if_icmp .ge 16), (23, .aload_n 0), (24, .getfield 9), (27, .iload_n 3), (28, .iconst 0), (29, .iastore), (30, .iinc 3 1), (33, .goto (-16)), (36, .return_)]
theorem co_X6_renew : ∀ q ∈ cd_X6_renew, qw_dec (qw_yb my_X6_renew) q.1 q.2 := fun q h => qw_okb_dec (List.all_eq_true.mp (show cd_X6_renew.all (qw_okb prog_8_method_4_code) = true by decide +kernel) q h)
def my_X7_init : qw_Y := (({ cls := "ShadowTheatre$Show", name := "<init>", desc := "()V" } : Jvm.MethodName), prog_9_method_1_code, 1, (Option.none : Option Jvm.ClassFile.FieldType), 0, 2, 47)
def my_X7_coversOf : qw_Y := (({ cls := "ShadowTheatre$Show", name := "coversOf", desc := "(II)I" } : Jvm.MethodName), prog_9_method_9_code, 5, (Option.some Jvm.ClassFile.FieldType.int), 2, 4, 87)
def cd_X7_coversOf : List (Nat × Instr) := [(0, .aload_n 0), (1, .iload_n 1), (2, .invokevirtual 97), (5, .iconst 0), (6, .istore_n 3), (7, .iconst 0), (8, .istore 4), (10, .iload 4), (12, .aload_n 0), (13, .getfield 12), (16, .getfield 100), (19, .if_icmp .ge 28), (22, .iload_n 3), (23, .aload_n 0), (24, .getfield 46), (27, .iload 4), (29, .invokevirtual 101), (32, .iload_n 2), (33, .iushr), (34, .iconst 1), (35, .iand), (36, .iload 4), (38, .ishl), (39, .ior), (40, .istore_n 3), (41, .iinc 4 1), (44, .goto (-34)), (47, .iload_n 3), (48, .ireturn)]
theorem co_X7_coversOf : ∀ q ∈ cd_X7_coversOf, qw_dec (qw_yb my_X7_coversOf) q.1 q.2 := fun q h => qw_okb_dec (List.all_eq_true.mp (show cd_X7_coversOf.all (qw_okb prog_9_method_9_code) = true by decide +kernel) q h)
def my_X7_darkestStep : qw_Y := (({ cls := "ShadowTheatre$Show", name := "darkestStep", desc := "()I" } : Jvm.MethodName), prog_9_method_14_code, 4, (Option.some Jvm.ClassFile.FieldType.int), 0, 3, 69)
def cd_X7_darkestStep : List (Nat × Instr) := [(0, .aload_n 0), (1, .getfield 46), (4, .aload_n 0), (5, .getfield 50), (8, .invokevirtual 61), (11, .iconst (-1)), (12, .istore_n 1), (13, .iconst (-1)), (14, .istore_n 2), (15, .iconst 0), (16, .istore_n 3), (17, .iload_n 3), (18, .bipush 20), (20, .if_icmp .ge 76), (23, .aload_n 0), (24, .getfield 46), (27, .aload_n 0), (28, .getfield 21), (31, .iload_n 3), (32, .invokevirtual 64), (35, .aload_n 0), (36, .getfield 21), (39, .iload_n 3), (40, .invokevirtual 67), (43, .invokevirtual 70), (46, .aload_n 0), (47, .getfield 46), (50, .iconst 0), (51, .iconst 0), (52, .invokevirtual 81), (55, .aload_n 0), (56, .getfield 46), (59, .getfield 85), (62, .invokevirtual 126), (65, .iload_n 2), (66, .if_icmp .le 24), (69, .aload_n 0), (70, .iload_n 3), (71, .invokevirtual 77), (74, .ifCond .ne 16), (77, .aload_n 0), (78, .getfield 46), (81, .getfield 85), (84, .invokevirtual 126), (87, .istore_n 2), (88, .iload_n 3), (89, .istore_n 1), (90, .iinc 3 1), (93, .goto (-76)), (96, .iload_n 1), (97, .ireturn)]
theorem co_X7_darkestStep : ∀ q ∈ cd_X7_darkestStep, qw_dec (qw_yb my_X7_darkestStep) q.1 q.2 := fun q h => qw_okb_dec (List.all_eq_true.mp (show cd_X7_darkestStep.all (qw_okb prog_9_method_14_code) = true by decide +kernel) q h)
def my_X7_doCues : qw_Y := (({ cls := "ShadowTheatre$Show", name := "doCues", desc := "(II)V" } : Jvm.MethodName), prog_9_method_4_code, 4, (Option.none : Option Jvm.ClassFile.FieldType), 2, 2, 43)
def cd_X7_doCues : List (Nat × Instr) := [(0, .iconst 0), (1, .istore_n 3), (2, .iload_n 3), (3, .iload_n 1), (4, .if_icmp .gt 46), (7, .iload_n 3), (8, .bipush 20), (10, .if_icmp .ge 40), (13, .iload_n 2), (14, .iload_n 3), (15, .ishr), (16, .iconst 1), (17, .iand), (18, .ifCond .ne 26), (21, .aload_n 0), (22, .getfield 46), (25, .aload_n 0), (26, .getfield 21), (29, .iload_n 3), (30, .invokevirtual 64), (33, .aload_n 0), (34, .getfield 21), (37, .iload_n 3), (38, .invokevirtual 67), (41, .invokevirtual 70), (44, .iinc 3 1), (47, .goto (-45)), (50, .return_)]
theorem co_X7_doCues : ∀ q ∈ cd_X7_doCues, qw_dec (qw_yb my_X7_doCues) q.1 q.2 := fun q h => qw_okb_dec (List.all_eq_true.mp (show cd_X7_doCues.all (qw_okb prog_9_method_4_code) = true by decide +kernel) q h)
def my_X7_falseNow : qw_Y := (({ cls := "ShadowTheatre$Show", name := "falseNow", desc := "()I" } : Jvm.MethodName), prog_9_method_7_code, 1, (Option.some Jvm.ClassFile.FieldType.int), 0, 2, 42)
def cd_X7_falseNow : List (Nat × Instr) := [(0, .aload_n 0), (1, .getfield 28), (4, .aload_n 0), (5, .getfield 46), (8, .getfield 85), (11, .invokevirtual 89), (14, .ireturn)]
theorem co_X7_falseNow : ∀ q ∈ cd_X7_falseNow, qw_dec (qw_yb my_X7_falseNow) q.1 q.2 := fun q h => qw_okb_dec (List.all_eq_true.mp (show cd_X7_falseNow.all (qw_okb prog_9_method_7_code) = true by decide +kernel) q h)
def my_X7_firstTouch : qw_Y := (({ cls := "ShadowTheatre$Show", name := "firstTouch", desc := "(I)I" } : Jvm.MethodName), prog_9_method_13_code, 4, (Option.some Jvm.ClassFile.FieldType.int), 1, 2, 43)
def cd_X7_firstTouch : List (Nat × Instr) := [(0, .aload_n 0), (1, .getfield 46), (4, .aload_n 0), (5, .getfield 50), (8, .invokevirtual 61), (11, .iconst 0), (12, .istore_n 2), (13, .iload_n 2), (14, .bipush 20), (16, .if_icmp .ge 70), (19, .aload_n 0), (20, .getfield 46), (23, .aload_n 0), (24, .getfield 21), (27, .iload_n 2), (28, .invokevirtual 64), (31, .aload_n 0), (32, .getfield 21), (35, .iload_n 2), (36, .invokevirtual 67), (39, .invokevirtual 70), (42, .aload_n 0), (43, .getfield 46), (46, .invokevirtual 122), (49, .istore_n 3), (50, .iload_n 3), (51, .iconst (-1)), (52, .if_icmp .eq 28), (55, .iload_n 1), (56, .ifCond .ne 7), (59, .iload_n 2), (60, .goto 19), (63, .iload_n 1), (64, .iconst 1), (65, .if_icmp .ne 10), (68, .iload_n 3), (69, .bipush 8), (71, .idiv), (72, .goto 7), (75, .iload_n 3), (76, .bipush 8), (78, .irem), (79, .ireturn), (80, .iinc 2 1), (83, .goto (-70)), (86, .iconst (-1)), (87, .ireturn)]
theorem co_X7_firstTouch : ∀ q ∈ cd_X7_firstTouch, qw_dec (qw_yb my_X7_firstTouch) q.1 q.2 := fun q h => qw_okb_dec (List.all_eq_true.mp (show cd_X7_firstTouch.all (qw_okb prog_9_method_13_code) = true by decide +kernel) q h)
def my_X7_goTo : qw_Y := (({ cls := "ShadowTheatre$Show", name := "goTo", desc := "(I)V" } : Jvm.MethodName), prog_9_method_5_code, 2, (Option.none : Option Jvm.ClassFile.FieldType), 1, 3, 66)
def cd_X7_goTo : List (Nat × Instr) := [(0, .aload_n 0), (1, .getfield 46), (4, .aload_n 0), (5, .getfield 50), (8, .invokevirtual 61), (11, .aload_n 0), (12, .iload_n 1), (13, .iconst 0), (14, .invokevirtual 74), (17, .return_)]
theorem co_X7_goTo : ∀ q ∈ cd_X7_goTo, qw_dec (qw_yb my_X7_goTo) q.1 q.2 := fun q h => qw_okb_dec (List.all_eq_true.mp (show cd_X7_goTo.all (qw_okb prog_9_method_5_code) = true by decide +kernel) q h)
def my_X7_isOut : qw_Y := (({ cls := "ShadowTheatre$Show", name := "isOut", desc := "(I)Z" } : Jvm.MethodName), prog_9_method_2_code, 3, (Option.some Jvm.ClassFile.FieldType.boolean), 1, 1, 21)
def cd_X7_isOut : List (Nat × Instr) := [(0, .iconst 0), (1, .istore_n 2), (2, .iload_n 2), (3, .aload_n 0), (4, .getfield 37), (7, .getfield 54), (10, .if_icmp .ge 23), (13, .aload_n 0), (14, .getfield 37), (17, .iload_n 2), (18, .invokevirtual 57), (21, .iload_n 1), (22, .if_icmp .ne 5), (25, .iconst 1), (26, .ireturn), (27, .iinc 2 1), (30, .goto (-28)), (33, .iconst 0), (34, .ireturn)]
theorem co_X7_isOut : ∀ q ∈ cd_X7_isOut, qw_dec (qw_yb my_X7_isOut) q.1 q.2 := fun q h => qw_okb_dec (List.all_eq_true.mp (show cd_X7_isOut.all (qw_okb prog_9_method_2_code) = true by decide +kernel) q h)
def my_X7_isShownNow : qw_Y := (({ cls := "ShadowTheatre$Show", name := "isShownNow", desc := "()Z" } : Jvm.MethodName), prog_9_method_8_code, 1, (Option.some Jvm.ClassFile.FieldType.boolean), 0, 3, 63)
def cd_X7_isShownNow : List (Nat × Instr) := [(0, .aload_n 0), (1, .getfield 28), (4, .aload_n 0), (5, .getfield 46), (8, .getfield 85), (11, .invokevirtual 93), (14, .ireturn)]
theorem co_X7_isShownNow : ∀ q ∈ cd_X7_isShownNow, qw_dec (qw_yb my_X7_isShownNow) q.1 q.2 := fun q h => qw_okb_dec (List.all_eq_true.mp (show cd_X7_isShownNow.all (qw_okb prog_9_method_8_code) = true by decide +kernel) q h)
def my_X7_leastBit : qw_Y := (({ cls := "ShadowTheatre$Show", name := "leastBit", desc := "(I)I" } : Jvm.MethodName), prog_9_method_11_code, 2, (Option.some Jvm.ClassFile.FieldType.int), 1, 0, 0)
def cd_X7_leastBit : List (Nat × Instr) := [(0, .iconst 0), (1, .istore_n 1), (2, .iload_n 1), (3, .bipush 32), (5, .if_icmp .ge 19), (8, .iload_n 0), (9, .iload_n 1), (10, .iushr), (11, .iconst 1), (12, .iand), (13, .ifCond .eq 5), (16, .iload_n 1), (17, .ireturn), (18, .iinc 1 1), (21, .goto (-19)), (24, .iconst (-1)), (25, .ireturn)]
theorem co_X7_leastBit : ∀ q ∈ cd_X7_leastBit, qw_dec (qw_yb my_X7_leastBit) q.1 q.2 := fun q h => qw_okb_dec (List.all_eq_true.mp (show cd_X7_leastBit.all (qw_okb prog_9_method_11_code) = true by decide +kernel) q h)
def my_X7_lightUp : qw_Y := (({ cls := "ShadowTheatre$Show", name := "lightUp", desc := "(I)V" } : Jvm.MethodName), prog_9_method_6_code, 2, (Option.none : Option Jvm.ClassFile.FieldType), 1, 3, 69)
def cd_X7_lightUp : List (Nat × Instr) := [(0, .aload_n 0), (1, .getfield 46), (4, .aload_n 0), (5, .getfield 50), (8, .invokevirtual 61), (11, .aload_n 0), (12, .iload_n 1), (13, .iconst 0), (14, .invokevirtual 74), (17, .aload_n 0), (18, .getfield 46), (21, .aload_n 0), (22, .iload_n 1), (23, .invokevirtual 77), (26, .iconst 0), (27, .invokevirtual 81), (30, .return_)]
theorem co_X7_lightUp : ∀ q ∈ cd_X7_lightUp, qw_dec (qw_yb my_X7_lightUp) q.1 q.2 := fun q h => qw_okb_dec (List.all_eq_true.mp (show cd_X7_lightUp.all (qw_okb prog_9_method_6_code) = true by decide +kernel) q h)
def my_X7_open : qw_Y := (({ cls := "ShadowTheatre$Show", name := "open", desc := "()V" } : Jvm.MethodName), prog_9_method_3_code, 1, (Option.none : Option Jvm.ClassFile.FieldType), 0, 1, 22)
def cd_X7_open : List (Nat × Instr) := [(0, .aload_n 0), (1, .getfield 46), (4, .aload_n 0), (5, .getfield 50), (8, .invokevirtual 61), (11, .return_)]
theorem co_X7_open : ∀ q ∈ cd_X7_open, qw_dec (qw_yb my_X7_open) q.1 q.2 := fun q h => qw_okb_dec (List.all_eq_true.mp (show cd_X7_open.all (qw_okb prog_9_method_3_code) = true by decide +kernel) q h)
def my_X7_shownSteps : qw_Y := (({ cls := "ShadowTheatre$Show", name := "shownSteps", desc := "(LShadowTheatre$Cues;)I" } : Jvm.MethodName), prog_9_method_12_code, 4, (Option.some Jvm.ClassFile.FieldType.int), 1, 4, 83)
def cd_X7_shownSteps : List (Nat × Instr) := [(0, .aload_n 0), (1, .getfield 46), (4, .aload_n 0), (5, .getfield 50), (8, .invokevirtual 61), (11, .iconst 0), (12, .istore_n 2), (13, .iconst 0), (14, .istore_n 3), (15, .iload_n 3), (16, .bipush 20), (18, .if_icmp .ge 52), (21, .aload_n 0), (22, .getfield 46), (25, .aload_n 1), (26, .iload_n 3), (27, .invokevirtual 64), (30, .aload_n 1), (31, .iload_n 3), (32, .invokevirtual 67), (35, .invokevirtual 70), (38, .aload_n 0), (39, .getfield 46), (42, .aload_n 0), (43, .iload_n 3), (44, .invokevirtual 77), (47, .iconst 0), (48, .invokevirtual 81), (51, .aload_n 0), (52, .invokevirtual 118), (55, .ifCond .eq 9), (58, .iload_n 2), (59, .iconst 1), (60, .iload_n 3), (61, .ishl), (62, .ior), (63, .istore_n 2), (64, .iinc 3 1), (67, .goto (-52)), (70, .iload_n 2), (71, .ireturn)]
theorem co_X7_shownSteps : ∀ q ∈ cd_X7_shownSteps, qw_dec (qw_yb my_X7_shownSteps) q.1 q.2 := fun q h => qw_okb_dec (List.all_eq_true.mp (show cd_X7_shownSteps.all (qw_okb prog_9_method_12_code) = true by decide +kernel) q h)
def my_X7_whereabouts : qw_Y := (({ cls := "ShadowTheatre$Show", name := "whereabouts", desc := "(III)I" } : Jvm.MethodName), prog_9_method_10_code, 5, (Option.some Jvm.ClassFile.FieldType.int), 3, 4, 87)
def cd_X7_whereabouts : List (Nat × Instr) := [(0, .aload_n 0), (1, .iload_n 1), (2, .invokevirtual 97), (5, .aload_n 0), (6, .getfield 46), (9, .iload_n 2), (10, .invokevirtual 101), (13, .istore 4), (15, .iload_n 3), (16, .tableswitch 52 0 2 #[28, 37, 46]), (44, .aload_n 0), (45, .getfield 46), (48, .iload_n 2), (49, .invokevirtual 104), (52, .ireturn), (53, .aload_n 0), (54, .getfield 46), (57, .iload_n 2), (58, .invokevirtual 107), (61, .ireturn), (62, .iload 4), (64, .invokestatic 110), (67, .ireturn), (68, .iload 4), (70, .invokestatic 115), (73, .ireturn)]
theorem co_X7_whereabouts : ∀ q ∈ cd_X7_whereabouts, qw_dec (qw_yb my_X7_whereabouts) q.1 q.2 := fun q h => qw_okb_dec (List.all_eq_true.mp (show cd_X7_whereabouts.all (qw_okb prog_9_method_10_code) = true by decide +kernel) q h)
def my_X8_init : qw_Y := (({ cls := "ShadowTheatre$Stage", name := "<init>", desc := "(LShadowTheatre$Troupe;)V" } : Jvm.MethodName), prog_10_method_1_code, 6, (Option.none : Option Jvm.ClassFile.FieldType), 1, 1, 22)
def my_X8_coverOf : qw_Y := (({ cls := "ShadowTheatre$Stage", name := "coverOf", desc := "(I)I" } : Jvm.MethodName), prog_10_method_10_code, 3, (Option.some Jvm.ClassFile.FieldType.int), 1, 1, 24)
def cd_X8_coverOf : List (Nat × Instr) := [(0, .aload_n 0), (1, .getfield 37), (4, .iload_n 1), (5, .invokevirtual 54), (8, .ifCond .ne 5), (11, .iconst 0), (12, .ireturn), (13, .aload_n 0), (14, .getfield 45), (17, .aload_n 0), (18, .getfield 15), (21, .iload_n 1), (22, .iaload), (23, .aload_n 0), (24, .getfield 18), (27, .iload_n 1), (28, .iaload), (29, .invokestatic 41), (32, .istore_n 2), (33, .aload_n 0), (34, .getfield 24), (37, .iload_n 1), (38, .iaload), (39, .iload_n 2), (40, .if_icmp .eq 22), (43, .aload_n 0), (44, .getfield 24), (47, .iload_n 1), (48, .iload_n 2), (49, .iastore), (50, .aload_n 0), (51, .getfield 27), (54, .iload_n 1), (55, .aload_n 0), (56, .iload_n 1), (57, .iload_n 2), (58, .invokevirtual 58), (61, .iastore), (62, .aload_n 0), (63, .getfield 27), (66, .iload_n 1), (67, .iaload), (68, .ireturn)]
theorem co_X8_coverOf : ∀ q ∈ cd_X8_coverOf, qw_dec (qw_yb my_X8_coverOf) q.1 q.2 := fun q h => qw_okb_dec (List.all_eq_true.mp (show cd_X8_coverOf.all (qw_okb prog_10_method_10_code) = true by decide +kernel) q h)
def my_X8_depthOf : qw_Y := (({ cls := "ShadowTheatre$Stage", name := "depthOf", desc := "(I)I" } : Jvm.MethodName), prog_10_method_7_code, 2, (Option.some Jvm.ClassFile.FieldType.int), 1, 1, 21)
def cd_X8_depthOf : List (Nat × Instr) := [(0, .aload_n 0), (1, .getfield 37), (4, .iload_n 1), (5, .invokevirtual 54), (8, .ifCond .eq 12), (11, .aload_n 0), (12, .getfield 15), (15, .iload_n 1), (16, .iaload), (17, .goto 4), (20, .iconst (-1)), (21, .ireturn)]
theorem co_X8_depthOf : ∀ q ∈ cd_X8_depthOf, qw_dec (qw_yb my_X8_depthOf) q.1 q.2 := fun q h => qw_okb_dec (List.all_eq_true.mp (show cd_X8_depthOf.all (qw_okb prog_10_method_7_code) = true by decide +kernel) q h)
def my_X8_dimBy : qw_Y := (({ cls := "ShadowTheatre$Stage", name := "dimBy", desc := "(I)V" } : Jvm.MethodName), prog_10_method_13_code, 2, (Option.none : Option Jvm.ClassFile.FieldType), 1, 2, 46)
def cd_X8_dimBy : List (Nat × Instr) := [(0, .aload_n 0), (1, .getfield 37), (4, .iload_n 1), (5, .invokevirtual 54), (8, .ifCond .eq 21), (11, .aload_n 0), (12, .getfield 33), (15, .aload_n 0), (16, .iload_n 1), (17, .invokevirtual 69), (20, .aload_n 0), (21, .getfield 21), (24, .iload_n 1), (25, .iaload), (26, .invokevirtual 73), (29, .return_)]
theorem co_X8_dimBy : ∀ q ∈ cd_X8_dimBy, qw_dec (qw_yb my_X8_dimBy) q.1 q.2 := fun q h => qw_okb_dec (List.all_eq_true.mp (show cd_X8_dimBy.all (qw_okb prog_10_method_13_code) = true by decide +kernel) q h)
def my_X8_forgetCovers : qw_Y := (({ cls := "ShadowTheatre$Stage", name := "forgetCovers", desc := "()V" } : Jvm.MethodName), prog_10_method_3_code, 2, (Option.none : Option Jvm.ClassFile.FieldType), 0, 0, 0)
def cd_X8_forgetCovers : List (Nat × Instr) := [(0, .iconst 0), (1, .istore_n 1), (2, .iload_n 1), (3, .bipush 8), (5, .if_icmp .ge 16), (8, .aload_n 0), (9, .getfield 24), (12, .iload_n 1), (13, .iconst (-1)), (14, .iastore), (15, .iinc 1 1), (18, .goto (-16)), (21, .return_)]
theorem co_X8_forgetCovers : ∀ q ∈ cd_X8_forgetCovers, qw_dec (qw_yb my_X8_forgetCovers) q.1 q.2 := fun q h => qw_okb_dec (List.all_eq_true.mp (show cd_X8_forgetCovers.all (qw_okb prog_10_method_3_code) = true by decide +kernel) q h)
def my_X8_move : qw_Y := (({ cls := "ShadowTheatre$Stage", name := "move", desc := "(II)V" } : Jvm.MethodName), prog_10_method_9_code, 3, (Option.none : Option Jvm.ClassFile.FieldType), 2, 1, 21)
def cd_X8_move : List (Nat × Instr) := [(0, .aload_n 0), (1, .getfield 37), (4, .iload_n 1), (5, .invokevirtual 54), (8, .ifCond .ne 4), (11, .return_), (12, .iload_n 2), (13, .ifCond .ne 25), (16, .aload_n 0), (17, .getfield 18), (20, .iload_n 1), (21, .iaload), (22, .ifCond .le 16), (25, .aload_n 0), (26, .getfield 18), (29, .iload_n 1), (30, .dup2), (31, .iaload), (32, .iconst 1), (33, .isub), (34, .iastore), (35, .goto 86), (38, .iload_n 2), (39, .iconst 1), (40, .if_icmp .ne 27), (43, .aload_n 0), (44, .getfield 18), (47, .iload_n 1), (48, .iaload), (49, .bipush 31), (51, .if_icmp .ge 16), (54, .aload_n 0), (55, .getfield 18), (58, .iload_n 1), (59, .dup2), (60, .iaload), (61, .iconst 1), (62, .iadd), (63, .iastore), (64, .goto 57), (67, .iload_n 2), (68, .iconst 2), (69, .if_icmp .ne 26), (72, .aload_n 0), (73, .getfield 15), (76, .iload_n 1), (77, .iaload), (78, .iconst 1), (79, .if_icmp .le 16), (82, .aload_n 0), (83, .getfield 15), (86, .iload_n 1), (87, .dup2), (88, .iaload), (89, .iconst 1), (90, .isub), (91, .iastore), (92, .goto 29), (95, .iload_n 2), (96, .iconst 3), (97, .if_icmp .ne 24), (100, .aload_n 0), (101, .getfield 15), (104, .iload_n 1), (105, .iaload), (106, .bipush 8), (108, .if_icmp .ge 13), (111, .aload_n 0), (112, .getfield 15), (115, .iload_n 1), (116, .dup2), (117, .iaload), (118, .iconst 1), (119, .iadd), (120, .iastore), (121, .return_)]
theorem co_X8_move : ∀ q ∈ cd_X8_move, qw_dec (qw_yb my_X8_move) q.1 q.2 := fun q h => qw_okb_dec (List.all_eq_true.mp (show cd_X8_move.all (qw_okb prog_10_method_9_code) = true by decide +kernel) q h)
def my_X8_paint : qw_Y := (({ cls := "ShadowTheatre$Stage", name := "paint", desc := "(II)V" } : Jvm.MethodName), prog_10_method_6_code, 3, (Option.none : Option Jvm.ClassFile.FieldType), 2, 1, 21)
def cd_X8_paint : List (Nat × Instr) := [(0, .aload_n 0), (1, .getfield 37), (4, .iload_n 1), (5, .invokevirtual 54), (8, .ifCond .eq 10), (11, .aload_n 0), (12, .getfield 21), (15, .iload_n 1), (16, .iload_n 2), (17, .iastore), (18, .return_)]
theorem co_X8_paint : ∀ q ∈ cd_X8_paint, qw_dec (qw_yb my_X8_paint) q.1 q.2 := fun q h => qw_okb_dec (List.all_eq_true.mp (show cd_X8_paint.all (qw_okb prog_10_method_6_code) = true by decide +kernel) q h)
def my_X8_placeOf : qw_Y := (({ cls := "ShadowTheatre$Stage", name := "placeOf", desc := "(I)I" } : Jvm.MethodName), prog_10_method_8_code, 2, (Option.some Jvm.ClassFile.FieldType.int), 1, 1, 21)
def cd_X8_placeOf : List (Nat × Instr) := [(0, .aload_n 0), (1, .getfield 37), (4, .iload_n 1), (5, .invokevirtual 54), (8, .ifCond .eq 12), (11, .aload_n 0), (12, .getfield 18), (15, .iload_n 1), (16, .iaload), (17, .goto 4), (20, .iconst (-1)), (21, .ireturn)]
theorem co_X8_placeOf : ∀ q ∈ cd_X8_placeOf, qw_dec (qw_yb my_X8_placeOf) q.1 q.2 := fun q h => qw_okb_dec (List.all_eq_true.mp (show cd_X8_placeOf.all (qw_okb prog_10_method_8_code) = true by decide +kernel) q h)
def my_X8_put : qw_Y := (({ cls := "ShadowTheatre$Stage", name := "put", desc := "(III)V" } : Jvm.MethodName), prog_10_method_5_code, 4, (Option.none : Option Jvm.ClassFile.FieldType), 3, 1, 21)
def cd_X8_put : List (Nat × Instr) := [(0, .aload_n 0), (1, .getfield 37), (4, .iload_n 1), (5, .invokevirtual 54), (8, .ifCond .eq 17), (11, .aload_n 0), (12, .getfield 15), (15, .iload_n 1), (16, .iload_n 2), (17, .iastore), (18, .aload_n 0), (19, .getfield 18), (22, .iload_n 1), (23, .iload_n 3), (24, .iastore), (25, .return_)]
theorem co_X8_put : ∀ q ∈ cd_X8_put, qw_dec (qw_yb my_X8_put) q.1 q.2 := fun q h => qw_okb_dec (List.all_eq_true.mp (show cd_X8_put.all (qw_okb prog_10_method_5_code) = true by decide +kernel) q h)
def my_X8_rayTo : qw_Y := (({ cls := "ShadowTheatre$Stage", name := "rayTo", desc := "(III)I" } : Jvm.MethodName), prog_10_method_2_code, 3, (Option.some Jvm.ClassFile.FieldType.int), 3, 0, 0)
def cd_X8_rayTo : List (Nat × Instr) := [(0, .iload_n 0), (1, .bipush 8), (3, .imul), (4, .iload_n 1), (5, .iadd), (6, .iconst 1), (7, .isub), (8, .bipush 32), (10, .imul), (11, .iload_n 2), (12, .iadd), (13, .ireturn)]
theorem co_X8_rayTo : ∀ q ∈ cd_X8_rayTo, qw_dec (qw_yb my_X8_rayTo) q.1 q.2 := fun q h => qw_okb_dec (List.all_eq_true.mp (show cd_X8_rayTo.all (qw_okb prog_10_method_2_code) = true by decide +kernel) q h)
def my_X8_shine : qw_Y := (({ cls := "ShadowTheatre$Stage", name := "shine", desc := "(ZI)V" } : Jvm.MethodName), prog_10_method_12_code, 4, (Option.none : Option Jvm.ClassFile.FieldType), 2, 2, 46)
def cd_X8_shine : List (Nat × Instr) := [(0, .aload_n 0), (1, .getfield 33), (4, .iload_n 1), (5, .ifCond .eq 7), (8, .iconst 0), (9, .goto 4), (12, .iconst (-1)), (13, .invokevirtual 65), (16, .iconst 0), (17, .istore_n 3), (18, .iload_n 3), (19, .bipush 8), (21, .if_icmp .ge 39), (24, .iload_n 1), (25, .ifCond .ne 35), (28, .iload_n 2), (29, .iload_n 3), (30, .ishr), (31, .iconst 1), (32, .iand), (33, .ifCond .ne 21), (36, .aload_n 0), (37, .getfield 33), (40, .aload_n 0), (41, .iload_n 3), (42, .invokevirtual 69), (45, .aload_n 0), (46, .getfield 21), (49, .iload_n 3), (50, .iaload), (51, .invokevirtual 73), (54, .iinc 3 1), (57, .goto (-39)), (60, .return_)]
theorem co_X8_shine : ∀ q ∈ cd_X8_shine, qw_dec (qw_yb my_X8_shine) q.1 q.2 := fun q h => qw_okb_dec (List.all_eq_true.mp (show cd_X8_shine.all (qw_okb prog_10_method_12_code) = true by decide +kernel) q h)
def my_X8_start : qw_Y := (({ cls := "ShadowTheatre$Stage", name := "start", desc := "(I)V" } : Jvm.MethodName), prog_10_method_4_code, 3, (Option.none : Option Jvm.ClassFile.FieldType), 1, 0, 0)
def cd_X8_start : List (Nat × Instr) := [(0, .aload_n 0), (1, .iload_n 1), (2, .putfield 45), (5, .iconst 0), (6, .istore_n 2), (7, .iload_n 2), (8, .bipush 8), (10, .if_icmp .ge 54), (13, .aload_n 0), (14, .getfield 15), (17, .iload_n 2), (18, .aload_n 0), (19, .getfield 37), (22, .getfield 49), (25, .iload_n 2), (26, .iaload), (27, .iastore), (28, .aload_n 0), (29, .getfield 18), (32, .iload_n 2), (33, .aload_n 0), (34, .getfield 37), (37, .getfield 52), (40, .iload_n 2), (41, .iaload), (42, .iastore), (43, .aload_n 0), (44, .getfield 21), (47, .iload_n 2), (48, .aload_n 0), (49, .getfield 37), (52, .getfield 53), (55, .iload_n 2), (56, .iaload), (57, .iastore), (58, .iinc 2 1), (61, .goto (-54)), (64, .return_)]
theorem co_X8_start : ∀ q ∈ cd_X8_start, qw_dec (qw_yb my_X8_start) q.1 q.2 := fun q h => qw_okb_dec (List.all_eq_true.mp (show cd_X8_start.all (qw_okb prog_10_method_4_code) = true by decide +kernel) q h)
def my_X8_touchingPair : qw_Y := (({ cls := "ShadowTheatre$Stage", name := "touchingPair", desc := "()I" } : Jvm.MethodName), prog_10_method_14_code, 3, (Option.some Jvm.ClassFile.FieldType.int), 0, 0, 0)
def cd_X8_touchingPair : List (Nat × Instr) := [(0, .iconst 0), (1, .istore_n 1), (2, .iload_n 1), (3, .aload_n 0), (4, .getfield 37), (7, .getfield 77), (10, .if_icmp .ge 114), (13, .iload_n 1), (14, .bipush 8), (16, .if_icmp .ge 108), (19, .iload_n 1), (20, .iconst 1), (21, .iadd), (22, .istore_n 2), (23, .iload_n 2), (24, .aload_n 0), (25, .getfield 37), (28, .getfield 77), (31, .if_icmp .ge 87), (34, .iload_n 2), (35, .bipush 8), (37, .if_icmp .ge 81), (40, .aload_n 0), (41, .getfield 15), (44, .iload_n 1), (45, .iaload), (46, .aload_n 0), (47, .getfield 15), (50, .iload_n 2), (51, .iaload), (52, .if_icmp .ne 60), (55, .aload_n 0), (56, .getfield 18), (59, .iload_n 1), (60, .iaload), (61, .aload_n 0), (62, .getfield 18), (65, .iload_n 2), (66, .iaload), (67, .aload_n 0), (68, .getfield 37), (71, .getfield 80), (74, .iload_n 2), (75, .iaload), (76, .iadd), (77, .if_icmp .ge 35), (80, .aload_n 0), (81, .getfield 18), (84, .iload_n 2), (85, .iaload), (86, .aload_n 0), (87, .getfield 18), (90, .iload_n 1), (91, .iaload), (92, .aload_n 0), (93, .getfield 37), (96, .getfield 80), (99, .iload_n 1), (100, .iaload), (101, .iadd), (102, .if_icmp .ge 10), (105, .iload_n 1), (106, .bipush 8), (108, .imul), (109, .iload_n 2), (110, .iadd), (111, .ireturn), (112, .iinc 2 1), (115, .goto (-92)), (118, .iinc 1 1), (121, .goto (-119)), (124, .iconst (-1)), (125, .ireturn)]
theorem co_X8_touchingPair : ∀ q ∈ cd_X8_touchingPair, qw_dec (qw_yb my_X8_touchingPair) q.1 q.2 := fun q h => qw_okb_dec (List.all_eq_true.mp (show cd_X8_touchingPair.all (qw_okb prog_10_method_14_code) = true by decide +kernel) q h)
def my_X8_workOutCover : qw_Y := (({ cls := "ShadowTheatre$Stage", name := "workOutCover", desc := "(II)I" } : Jvm.MethodName), prog_10_method_11_code, 5, (Option.some Jvm.ClassFile.FieldType.int), 2, 0, 0)
def cd_X8_workOutCover : List (Nat × Instr) := [(0, .iconst 0), (1, .istore_n 3), (2, .iconst 0), (3, .istore 4), (5, .iload 4), (7, .bipush 6), (9, .if_icmp .ge 68), (12, .aload_n 0), (13, .getfield 18), (16, .iload_n 1), (17, .iaload), (18, .iload 4), (20, .iadd), (21, .bipush 32), (23, .if_icmp .ge 54), (26, .aload_n 0), (27, .getfield 37), (30, .getfield 62), (33, .iload_n 1), (34, .iaload), (35, .iload 4), (37, .ishr), (38, .iconst 1), (39, .iand), (40, .ifCond .eq 31), (43, .iload_n 2), (44, .ifCond .lt 27), (47, .iload_n 2), (48, .iload 4), (50, .iadd), (51, .aload_n 0), (52, .getfield 9), (55, .arraylength), (56, .if_icmp .ge 15), (59, .iload_n 3), (60, .aload_n 0), (61, .getfield 9), (64, .iload_n 2), (65, .iload 4), (67, .iadd), (68, .iaload), (69, .ior), (70, .istore_n 3), (71, .iinc 4 1), (74, .goto (-69)), (77, .iload_n 3), (78, .ireturn)]
theorem co_X8_workOutCover : ∀ q ∈ cd_X8_workOutCover, qw_dec (qw_yb my_X8_workOutCover) q.1 q.2 := fun q h => qw_okb_dec (List.all_eq_true.mp (show cd_X8_workOutCover.all (qw_okb prog_10_method_11_code) = true by decide +kernel) q h)
def my_X9_init : qw_Y := (({ cls := "ShadowTheatre$Troupe", name := "<init>", desc := "()V" } : Jvm.MethodName), prog_11_method_1_code, 1, (Option.none : Option Jvm.ClassFile.FieldType), 0, 0, 0)
def my_X9_detail : qw_Y := (({ cls := "ShadowTheatre$Troupe", name := "detail", desc := "(II)I" } : Jvm.MethodName), prog_11_method_6_code, 3, (Option.some Jvm.ClassFile.FieldType.int), 2, 1, 21)
def cd_X9_detail : List (Nat × Instr) := [(0, .aload_n 0), (1, .iload_n 1), (2, .invokevirtual 56), (5, .ifCond .ne 5), (8, .iconst (-1)), (9, .ireturn), (10, .iload_n 2), (11, .tableswitch 57 0 3 #[29, 36, 43, 50]), (40, .aload_n 0), (41, .getfield 9), (44, .iload_n 1), (45, .iaload), (46, .ireturn), (47, .aload_n 0), (48, .getfield 15), (51, .iload_n 1), (52, .iaload), (53, .ireturn), (54, .aload_n 0), (55, .getfield 18), (58, .iload_n 1), (59, .iaload), (60, .ireturn), (61, .aload_n 0), (62, .getfield 21), (65, .iload_n 1), (66, .iaload), (67, .ireturn), (68, .iload_n 2), (69, .iconst 4), (70, .isub), (71, .aload_n 0), (72, .getfield 21), (75, .iload_n 1), (76, .iaload), (77, .if_icmp .ge 18), (80, .aload_n 0), (81, .getfield 24), (84, .iload_n 1), (85, .iaload), (86, .iload_n 2), (87, .iconst 4), (88, .isub), (89, .ishr), (90, .iconst 1), (91, .iand), (92, .goto 4), (95, .iconst (-1)), (96, .ireturn)]
theorem co_X9_detail : ∀ q ∈ cd_X9_detail, qw_dec (qw_yb my_X9_detail) q.1 q.2 := fun q h => qw_okb_dec (List.all_eq_true.mp (show cd_X9_detail.all (qw_okb prog_11_method_6_code) = true by decide +kernel) q h)
def my_X9_has : qw_Y := (({ cls := "ShadowTheatre$Troupe", name := "has", desc := "(I)Z" } : Jvm.MethodName), prog_11_method_5_code, 2, (Option.some Jvm.ClassFile.FieldType.boolean), 1, 0, 0)
def cd_X9_has : List (Nat × Instr) := [(0, .iload_n 1), (1, .ifCond .lt 21), (4, .iload_n 1), (5, .aload_n 0), (6, .getfield 44), (9, .if_icmp .ge 13), (12, .iload_n 1), (13, .bipush 8), (15, .if_icmp .ge 7), (18, .iconst 1), (19, .goto 4), (22, .iconst 0), (23, .ireturn)]
theorem co_X9_has : ∀ q ∈ cd_X9_has, qw_dec (qw_yb my_X9_has) q.1 q.2 := fun q h => qw_okb_dec (List.all_eq_true.mp (show cd_X9_has.all (qw_okb prog_11_method_5_code) = true by decide +kernel) q h)
def my_X9_parse : qw_Y := (({ cls := "ShadowTheatre$Troupe", name := "parse", desc := "(LShadowTheatre$Row;)V" } : Jvm.MethodName), prog_11_method_2_code, 6, (Option.none : Option Jvm.ClassFile.FieldType), 1, 8, 182)
def cd_X9_parse : List (Nat × Instr) := [(0, .iconst 0), (1, .istore_n 2), (2, .iconst 0), (3, .istore_n 3), (4, .aload_n 0), (5, .iconst (-1)), (6, .putfield 27), (9, .iconst 0), (10, .istore 4), (12, .iload 4), (14, .aload_n 1), (15, .getfield 31), (18, .if_icmp .ge 68), (21, .aload_n 0), (22, .getfield 27), (25, .iconst (-1)), (26, .if_icmp .ne 60), (29, .aload_n 1), (30, .iload 4), (32, .invokevirtual 36), (35, .istore 5), (37, .iload 5), (39, .bipush 59), (41, .if_icmp .ne 16), (44, .iload_n 3), (45, .iconst 5), (46, .if_icmp .lt 11), (49, .iinc 2 1), (52, .iconst 0), (53, .istore_n 3), (54, .goto 26), (57, .aload_n 0), (58, .iload_n 2), (59, .iload_n 3), (60, .iload 5), (62, .invokevirtual 40), (65, .ifCond .eq 9), (68, .iinc 3 1), (71, .goto 9), (74, .aload_n 0), (75, .iload 4), (77, .putfield 27), (80, .iinc 4 1), (83, .goto (-71)), (86, .aload_n 0), (87, .getfield 27), (90, .iconst (-1)), (91, .if_icmp .ne 23), (94, .aload_n 1), (95, .getfield 31), (98, .ifCond .le 16), (101, .iload_n 3), (102, .iconst 5), (103, .if_icmp .ge 11), (106, .aload_n 0), (107, .aload_n 1), (108, .getfield 31), (111, .putfield 27), (114, .aload_n 0), (115, .aload_n 0), (116, .getfield 27), (119, .iconst (-1)), (120, .if_icmp .ne 16), (123, .aload_n 1), (124, .getfield 31), (127, .ifCond .le 9), (130, .iload_n 2), (131, .iconst 1), (132, .iadd), (133, .goto 4), (136, .iconst 0), (137, .putfield 44), (140, .return_)]
theorem co_X9_parse : ∀ q ∈ cd_X9_parse, qw_dec (qw_yb my_X9_parse) q.1 q.2 := fun q h => qw_okb_dec (List.all_eq_true.mp (show cd_X9_parse.all (qw_okb prog_11_method_2_code) = true by decide +kernel) q h)
def my_X9_takes : qw_Y := (({ cls := "ShadowTheatre$Troupe", name := "takes", desc := "(III)Z" } : Jvm.MethodName), prog_11_method_3_code, 4, (Option.some Jvm.ClassFile.FieldType.boolean), 3, 7, 159)
def cd_X9_takes : List (Nat × Instr) := [(0, .iload_n 1), (1, .ifCond .lt 9), (4, .iload_n 1), (5, .bipush 8), (7, .if_icmp .lt 5), (10, .iconst 0), (11, .ireturn), (12, .iload_n 2), (13, .tableswitch 174 0 3 #[31, 73, 104, 146]), (44, .aload_n 0), (45, .getfield 9), (48, .iload_n 1), (49, .iload_n 3), (50, .bipush 48), (52, .isub), (53, .iastore), (54, .aload_n 0), (55, .getfield 21), (58, .iload_n 1), (59, .iconst 0), (60, .iastore), (61, .aload_n 0), (62, .getfield 24), (65, .iload_n 1), (66, .iconst 0), (67, .iastore), (68, .iload_n 3), (69, .bipush 49), (71, .if_icmp .lt 13), (74, .iload_n 3), (75, .bipush 56), (77, .if_icmp .gt 7), (80, .iconst 1), (81, .goto 4), (84, .iconst 0), (85, .ireturn), (86, .aload_n 0), (87, .getfield 15), (90, .iload_n 1), (91, .bipush 10), (93, .iload_n 3), (94, .bipush 48), (96, .isub), (97, .imul), (98, .iastore), (99, .iload_n 3), (100, .bipush 48), (102, .if_icmp .lt 13), (105, .iload_n 3), (106, .bipush 51), (108, .if_icmp .gt 7), (111, .iconst 1), (112, .goto 4), (115, .iconst 0), (116, .ireturn), (117, .aload_n 0), (118, .getfield 15), (121, .iload_n 1), (122, .dup2), (123, .iaload), (124, .iload_n 3), (125, .bipush 48), (127, .isub), (128, .iadd), (129, .iastore), (130, .iload_n 3), (131, .bipush 48), (133, .if_icmp .lt 24), (136, .iload_n 3), (137, .bipush 57), (139, .if_icmp .gt 18), (142, .aload_n 0), (143, .getfield 15), (146, .iload_n 1), (147, .iaload), (148, .bipush 32), (150, .if_icmp .ge 7), (153, .iconst 1), (154, .goto 4), (157, .iconst 0), (158, .ireturn), (159, .aload_n 0), (160, .getfield 18), (163, .iload_n 1), (164, .ldc 45), (166, .iload_n 3), (167, .i2c), (168, .invokevirtual 47), (171, .iastore), (172, .aload_n 0), (173, .getfield 18), (176, .iload_n 1), (177, .iaload), (178, .ifCond .lt 7), (181, .iconst 1), (182, .goto 4), (185, .iconst 0), (186, .ireturn), (187, .aload_n 0), (188, .iload_n 1), (189, .iload_n 3), (190, .invokevirtual 52), (193, .ireturn)]
theorem co_X9_takes : ∀ q ∈ cd_X9_takes, qw_dec (qw_yb my_X9_takes) q.1 q.2 := fun q h => qw_okb_dec (List.all_eq_true.mp (show cd_X9_takes.all (qw_okb prog_11_method_3_code) = true by decide +kernel) q h)
def my_X9_takesMark : qw_Y := (({ cls := "ShadowTheatre$Troupe", name := "takesMark", desc := "(II)Z" } : Jvm.MethodName), prog_11_method_4_code, 3, (Option.some Jvm.ClassFile.FieldType.boolean), 2, 0, 0)
def cd_X9_takesMark : List (Nat × Instr) := [(0, .aload_n 0), (1, .getfield 21), (4, .iload_n 1), (5, .iaload), (6, .bipush 6), (8, .if_icmp .ge 15), (11, .iload_n 2), (12, .bipush 35), (14, .if_icmp .eq 11), (17, .iload_n 2), (18, .bipush 46), (20, .if_icmp .eq 5), (23, .iconst 0), (24, .ireturn), (25, .iload_n 2), (26, .bipush 35), (28, .if_icmp .ne 20), (31, .aload_n 0), (32, .getfield 24), (35, .iload_n 1), (36, .dup2), (37, .iaload), (38, .iconst 1), (39, .aload_n 0), (40, .getfield 21), (43, .iload_n 1), (44, .iaload), (45, .ishl), (46, .ior), (47, .iastore), (48, .aload_n 0), (49, .getfield 21), (52, .iload_n 1), (53, .dup2), (54, .iaload), (55, .iconst 1), (56, .iadd), (57, .iastore), (58, .iconst 1), (59, .ireturn)]
theorem co_X9_takesMark : ∀ q ∈ cd_X9_takesMark, qw_dec (qw_yb my_X9_takesMark) q.1 q.2 := fun q h => qw_okb_dec (List.all_eq_true.mp (show cd_X9_takesMark.all (qw_okb prog_11_method_4_code) = true by decide +kernel) q h)
end
section
def qt_0 : u_T := fun k => match k with
  | 0 => ("ShadowTheatre$Chance", "show", "LShadowTheatre$Show;", true)
  | 1 => ("ShadowTheatre$Chance", "lots", "LShadowTheatre$Cues;", true)
  | 2 => ("ShadowTheatre$Chance", "above", "J", false)
  | _ => ("ShadowTheatre$Chance", "below", "J", false)
def qt_1 : u_T := fun k => match k with
  | 0 => ("ShadowTheatre$Cues", "figure", "[I", true)
  | 1 => ("ShadowTheatre$Cues", "whither", "[I", true)
  | 2 => ("ShadowTheatre$Cues", "count", "I", false)
  | _ => ("ShadowTheatre$Cues", "faultPlace", "I", false)
def qt_2 : u_T := fun k => match k with
  | 0 => ("ShadowTheatre$Glow", "red", "I", false)
  | 1 => ("ShadowTheatre$Glow", "green", "I", false)
  | _ => ("ShadowTheatre$Glow", "blue", "I", false)
def qt_3 : u_T := fun k => match k with
  | 0 => ("ShadowTheatre$Picture", "wanted", "LShadowTheatre$Glow;", true)
  | 1 => ("ShadowTheatre$Picture", "told", "I", false)
  | _ => ("ShadowTheatre$Picture", "faultPlace", "I", false)
def qt_4 : u_T := fun k => match k with
  | 0 => ("ShadowTheatre$Planner", "show", "LShadowTheatre$Show;", true)
  | 1 => ("ShadowTheatre$Planner", "stage", "LShadowTheatre$Stage;", true)
  | 2 => ("ShadowTheatre$Planner", "others", "LShadowTheatre$Glow;", true)
  | 3 => ("ShadowTheatre$Planner", "endDepth", "[I", true)
  | 4 => ("ShadowTheatre$Planner", "endPlace", "[I", true)
  | _ => ("ShadowTheatre$Planner", "plan", "[I", true)
def qt_5 : u_T := fun k => match k with
  | 0 => ("ShadowTheatre$Row", "items", "[I", true)
  | _ => ("ShadowTheatre$Row", "count", "I", false)
def qt_6 : u_T := fun k => match k with
  | 0 => ("ShadowTheatre$Sheet", "items", "[I", true)
  | 1 => ("ShadowTheatre$Sheet", "form", "I", false)
  | _ => ("ShadowTheatre$Sheet", "count", "I", false)
def qt_7 : u_T := fun k => match k with
  | 0 => ("ShadowTheatre$Show", "figures", "LShadowTheatre$Troupe;", true)
  | 1 => ("ShadowTheatre$Show", "cues", "LShadowTheatre$Cues;", true)
  | 2 => ("ShadowTheatre$Show", "picture", "LShadowTheatre$Picture;", true)
  | 3 => ("ShadowTheatre$Show", "flickers", "LShadowTheatre$Row;", true)
  | 4 => ("ShadowTheatre$Show", "stage", "LShadowTheatre$Stage;", true)
  | _ => ("ShadowTheatre$Show", "lamp", "I", false)
def qt_8 : u_T := fun k => match k with
  | 0 => ("ShadowTheatre$Stage", "told", "LShadowTheatre$Troupe;", true)
  | 1 => ("ShadowTheatre$Stage", "rays", "[I", true)
  | 2 => ("ShadowTheatre$Stage", "depth", "[I", true)
  | 3 => ("ShadowTheatre$Stage", "place", "[I", true)
  | 4 => ("ShadowTheatre$Stage", "colour", "[I", true)
  | 5 => ("ShadowTheatre$Stage", "coverRay", "[I", true)
  | 6 => ("ShadowTheatre$Stage", "cover", "[I", true)
  | 7 => ("ShadowTheatre$Stage", "glow", "LShadowTheatre$Glow;", true)
  | _ => ("ShadowTheatre$Stage", "lamp", "I", false)
def qt_9 : u_T := fun k => match k with
  | 0 => ("ShadowTheatre$Troupe", "depth", "[I", true)
  | 1 => ("ShadowTheatre$Troupe", "place", "[I", true)
  | 2 => ("ShadowTheatre$Troupe", "colour", "[I", true)
  | 3 => ("ShadowTheatre$Troupe", "marks", "[I", true)
  | 4 => ("ShadowTheatre$Troupe", "card", "[I", true)
  | 5 => ("ShadowTheatre$Troupe", "count", "I", false)
  | _ => ("ShadowTheatre$Troupe", "faultPlace", "I", false)
def qt_10 : u_T := fun k => match k with
  | 0 => ("ShadowTheatre$Witness", "show", "LShadowTheatre$Show;", true)
  | 1 => ("ShadowTheatre$Witness", "stage", "LShadowTheatre$Stage;", true)
  | 2 => ("ShadowTheatre$Witness", "sights", "LShadowTheatre$Row;", true)
  | _ => ("ShadowTheatre$Witness", "tally", "[I", true)
def qt_11 : u_T := fun k => match k with
  | 0 => ("ShadowTheatre", "figureText", "LShadowTheatre$Row;", true)
  | 1 => ("ShadowTheatre", "cueText", "LShadowTheatre$Row;", true)
  | 2 => ("ShadowTheatre", "pictureText", "LShadowTheatre$Row;", true)
  | 3 => ("ShadowTheatre", "show", "LShadowTheatre$Show;", true)
  | 4 => ("ShadowTheatre", "planner", "LShadowTheatre$Planner;", true)
  | 5 => ("ShadowTheatre", "witness", "LShadowTheatre$Witness;", true)
  | 6 => ("ShadowTheatre", "chance", "LShadowTheatre$Chance;", true)
  | 7 => ("ShadowTheatre", "sheets", "[LShadowTheatre$Sheet;", true)
  | _ => ("ShadowTheatre", "finding", "I", false)
def qt_12 : u_T := fun k => match k with
  | 0 => ("ShadowTheatreModel", "forms", "[I", true)
  | 1 => ("ShadowTheatreModel", "sizes", "[I", true)
  | 2 => ("ShadowTheatreModel", "items", "[I", true)
  | 3 => ("ShadowTheatreModel", "moved", "[I", true)
  | 4 => ("ShadowTheatreModel", "latest", "I", false)
  | 5 => ("ShadowTheatreModel", "bytes", "[I", true)
  | 6 => ("ShadowTheatreModel", "typed", "[I", true)
  | 7 => ("ShadowTheatreModel", "figures", "I", false)
  | 8 => ("ShadowTheatreModel", "figure", "[I", true)
  | 9 => ("ShadowTheatreModel", "cards", "[I", true)
  | 10 => ("ShadowTheatreModel", "who", "[I", true)
  | 11 => ("ShadowTheatreModel", "whither", "[I", true)
  | 12 => ("ShadowTheatreModel", "picture", "[I", true)
  | 13 => ("ShadowTheatreModel", "lamp", "I", false)
  | 14 => ("ShadowTheatreModel", "flickers", "I", false)
  | 15 => ("ShadowTheatreModel", "flicker", "[I", true)
  | 16 => ("ShadowTheatreModel", "depthBy", "[I", true)
  | 17 => ("ShadowTheatreModel", "placeBy", "[I", true)
  | 18 => ("ShadowTheatreModel", "depth", "[I", true)
  | 19 => ("ShadowTheatreModel", "place", "[I", true)
  | 20 => ("ShadowTheatreModel", "undone", "I", false)
  | 21 => ("ShadowTheatreModel", "gone", "I", false)
  | 22 => ("ShadowTheatreModel", "sights", "I", false)
  | 23 => ("ShadowTheatreModel", "sight", "[I", true)
  | 24 => ("ShadowTheatreModel", "alike", "[I", true)
  | _ => ("ShadowTheatreModel", "drawn", "I", false)
def qu_0 : Nat → FieldType := fun k => match k with
  | 0 => .object "ShadowTheatre$Show"
  | 1 => .object "ShadowTheatre$Cues"
  | 2 => .long
  | _ => .long
theorem qu_0_ok : ∀ k, k < 4 → parseFieldDescriptor (qt_0 k).2.2.1 = some (qu_0 k) := by decide +kernel
theorem qn_0_ok : ∀ a, a < 4 → ∀ b, b < 4 → a ≠ b → (qt_0 a).2.1 ≠ (qt_0 b).2.1 := by decide +kernel
theorem qv_0_ok : ∀ x ∈ u_ws "ShadowTheatre$Chance" qt_0 4, x ∈ qw_tw := qw_inS (by decide +kernel)
def qu_1 : Nat → FieldType := fun k => match k with
  | 0 => .array .int
  | 1 => .array .int
  | 2 => .int
  | _ => .int
theorem qu_1_ok : ∀ k, k < 4 → parseFieldDescriptor (qt_1 k).2.2.1 = some (qu_1 k) := by decide +kernel
theorem qn_1_ok : ∀ a, a < 4 → ∀ b, b < 4 → a ≠ b → (qt_1 a).2.1 ≠ (qt_1 b).2.1 := by decide +kernel
theorem qv_1_ok : ∀ x ∈ u_ws "ShadowTheatre$Cues" qt_1 4, x ∈ qw_tw := qw_inS (by decide +kernel)
def qu_2 : Nat → FieldType := fun k => match k with
  | 0 => .int
  | 1 => .int
  | _ => .int
theorem qu_2_ok : ∀ k, k < 3 → parseFieldDescriptor (qt_2 k).2.2.1 = some (qu_2 k) := by decide +kernel
theorem qn_2_ok : ∀ a, a < 3 → ∀ b, b < 3 → a ≠ b → (qt_2 a).2.1 ≠ (qt_2 b).2.1 := by decide +kernel
theorem qv_2_ok : ∀ x ∈ u_ws "ShadowTheatre$Glow" qt_2 3, x ∈ qw_tw := qw_inS (by decide +kernel)
def qu_3 : Nat → FieldType := fun k => match k with
  | 0 => .object "ShadowTheatre$Glow"
  | 1 => .int
  | _ => .int
theorem qu_3_ok : ∀ k, k < 3 → parseFieldDescriptor (qt_3 k).2.2.1 = some (qu_3 k) := by decide +kernel
theorem qn_3_ok : ∀ a, a < 3 → ∀ b, b < 3 → a ≠ b → (qt_3 a).2.1 ≠ (qt_3 b).2.1 := by decide +kernel
theorem qv_3_ok : ∀ x ∈ u_ws "ShadowTheatre$Picture" qt_3 3, x ∈ qw_tw := qw_inS (by decide +kernel)
def qu_4 : Nat → FieldType := fun k => match k with
  | 0 => .object "ShadowTheatre$Show"
  | 1 => .object "ShadowTheatre$Stage"
  | 2 => .object "ShadowTheatre$Glow"
  | 3 => .array .int
  | 4 => .array .int
  | _ => .array .int
theorem qu_4_ok : ∀ k, k < 6 → parseFieldDescriptor (qt_4 k).2.2.1 = some (qu_4 k) := by decide +kernel
theorem qn_4_ok : ∀ a, a < 6 → ∀ b, b < 6 → a ≠ b → (qt_4 a).2.1 ≠ (qt_4 b).2.1 := by decide +kernel
theorem qv_4_ok : ∀ x ∈ u_ws "ShadowTheatre$Planner" qt_4 6, x ∈ qw_tw := qw_inS (by decide +kernel)
def qu_5 : Nat → FieldType := fun k => match k with
  | 0 => .array .int
  | _ => .int
theorem qu_5_ok : ∀ k, k < 2 → parseFieldDescriptor (qt_5 k).2.2.1 = some (qu_5 k) := by decide +kernel
theorem qn_5_ok : ∀ a, a < 2 → ∀ b, b < 2 → a ≠ b → (qt_5 a).2.1 ≠ (qt_5 b).2.1 := by decide +kernel
theorem qv_5_ok : ∀ x ∈ u_ws "ShadowTheatre$Row" qt_5 2, x ∈ qw_tw := qw_inS (by decide +kernel)
def qu_6 : Nat → FieldType := fun k => match k with
  | 0 => .array .int
  | 1 => .int
  | _ => .int
theorem qu_6_ok : ∀ k, k < 3 → parseFieldDescriptor (qt_6 k).2.2.1 = some (qu_6 k) := by decide +kernel
theorem qn_6_ok : ∀ a, a < 3 → ∀ b, b < 3 → a ≠ b → (qt_6 a).2.1 ≠ (qt_6 b).2.1 := by decide +kernel
theorem qv_6_ok : ∀ x ∈ u_ws "ShadowTheatre$Sheet" qt_6 3, x ∈ qw_tw := qw_inS (by decide +kernel)
def qu_7 : Nat → FieldType := fun k => match k with
  | 0 => .object "ShadowTheatre$Troupe"
  | 1 => .object "ShadowTheatre$Cues"
  | 2 => .object "ShadowTheatre$Picture"
  | 3 => .object "ShadowTheatre$Row"
  | 4 => .object "ShadowTheatre$Stage"
  | _ => .int
theorem qu_7_ok : ∀ k, k < 6 → parseFieldDescriptor (qt_7 k).2.2.1 = some (qu_7 k) := by decide +kernel
theorem qn_7_ok : ∀ a, a < 6 → ∀ b, b < 6 → a ≠ b → (qt_7 a).2.1 ≠ (qt_7 b).2.1 := by decide +kernel
theorem qv_7_ok : ∀ x ∈ u_ws "ShadowTheatre$Show" qt_7 6, x ∈ qw_tw := qw_inS (by decide +kernel)
def qu_8 : Nat → FieldType := fun k => match k with
  | 0 => .object "ShadowTheatre$Troupe"
  | 1 => .array .int
  | 2 => .array .int
  | 3 => .array .int
  | 4 => .array .int
  | 5 => .array .int
  | 6 => .array .int
  | 7 => .object "ShadowTheatre$Glow"
  | _ => .int
theorem qu_8_ok : ∀ k, k < 9 → parseFieldDescriptor (qt_8 k).2.2.1 = some (qu_8 k) := by decide +kernel
theorem qn_8_ok : ∀ a, a < 9 → ∀ b, b < 9 → a ≠ b → (qt_8 a).2.1 ≠ (qt_8 b).2.1 := by decide +kernel
theorem qv_8_ok : ∀ x ∈ u_ws "ShadowTheatre$Stage" qt_8 9, x ∈ qw_tw := qw_inS (by decide +kernel)
def qu_9 : Nat → FieldType := fun k => match k with
  | 0 => .array .int
  | 1 => .array .int
  | 2 => .array .int
  | 3 => .array .int
  | 4 => .array .int
  | 5 => .int
  | _ => .int
theorem qu_9_ok : ∀ k, k < 7 → parseFieldDescriptor (qt_9 k).2.2.1 = some (qu_9 k) := by decide +kernel
theorem qn_9_ok : ∀ a, a < 7 → ∀ b, b < 7 → a ≠ b → (qt_9 a).2.1 ≠ (qt_9 b).2.1 := by decide +kernel
theorem qv_9_ok : ∀ x ∈ u_ws "ShadowTheatre$Troupe" qt_9 7, x ∈ qw_tw := qw_inS (by decide +kernel)
def qu_10 : Nat → FieldType := fun k => match k with
  | 0 => .object "ShadowTheatre$Show"
  | 1 => .object "ShadowTheatre$Stage"
  | 2 => .object "ShadowTheatre$Row"
  | _ => .array .int
theorem qu_10_ok : ∀ k, k < 4 → parseFieldDescriptor (qt_10 k).2.2.1 = some (qu_10 k) := by decide +kernel
theorem qn_10_ok : ∀ a, a < 4 → ∀ b, b < 4 → a ≠ b → (qt_10 a).2.1 ≠ (qt_10 b).2.1 := by decide +kernel
theorem qv_10_ok : ∀ x ∈ u_ws "ShadowTheatre$Witness" qt_10 4, x ∈ qw_tw := qw_inS (by decide +kernel)
def qu_11 : Nat → FieldType := fun k => match k with
  | 0 => .object "ShadowTheatre$Row"
  | 1 => .object "ShadowTheatre$Row"
  | 2 => .object "ShadowTheatre$Row"
  | 3 => .object "ShadowTheatre$Show"
  | 4 => .object "ShadowTheatre$Planner"
  | 5 => .object "ShadowTheatre$Witness"
  | 6 => .object "ShadowTheatre$Chance"
  | 7 => .array (.object "ShadowTheatre$Sheet")
  | _ => .int
theorem qu_11_ok : ∀ k, k < 9 → parseFieldDescriptor (qt_11 k).2.2.1 = some (qu_11 k) := by decide +kernel
theorem qn_11_ok : ∀ a, a < 9 → ∀ b, b < 9 → a ≠ b → (qt_11 a).2.1 ≠ (qt_11 b).2.1 := by decide +kernel
theorem qv_11_ok : ∀ x ∈ u_ws "ShadowTheatre" qt_11 9, x ∈ qw_tw := qw_inS (by decide +kernel)
def qu_12 : Nat → FieldType := fun k => match k with
  | 0 => .array .int
  | 1 => .array .int
  | 2 => .array .int
  | 3 => .array .int
  | 4 => .int
  | 5 => .array .int
  | 6 => .array .int
  | 7 => .int
  | 8 => .array .int
  | 9 => .array .int
  | 10 => .array .int
  | 11 => .array .int
  | 12 => .array .int
  | 13 => .int
  | 14 => .int
  | 15 => .array .int
  | 16 => .array .int
  | 17 => .array .int
  | 18 => .array .int
  | 19 => .array .int
  | 20 => .int
  | 21 => .int
  | 22 => .int
  | 23 => .array .int
  | 24 => .array .int
  | _ => .int
theorem qu_12_ok : ∀ k, k < 26 → parseFieldDescriptor (qt_12 k).2.2.1 = some (qu_12 k) := by decide +kernel
theorem qn_12_ok : ∀ a, a < 26 → ∀ b, b < 26 → a ≠ b → (qt_12 a).2.1 ≠ (qt_12 b).2.1 := by decide +kernel
theorem qv_12_ok : ∀ x ∈ u_ws "ShadowTheatreModel" qt_12 26, x ∈ qw_tw := qw_inS (by decide +kernel)
def qc_cl : List vw_C := [("ShadowTheatre$Chance", qt_0, 4), ("ShadowTheatre$Cues", qt_1, 4), ("ShadowTheatre$Glow", qt_2, 3), ("ShadowTheatre$Picture", qt_3, 3), ("ShadowTheatre$Planner", qt_4, 6), ("ShadowTheatre$Row", qt_5, 2), ("ShadowTheatre$Sheet", qt_6, 3), ("ShadowTheatre$Show", qt_7, 6), ("ShadowTheatre$Stage", qt_8, 9), ("ShadowTheatre$Troupe", qt_9, 7), ("ShadowTheatre$Witness", qt_10, 4), ("ShadowTheatre", qt_11, 9), ("ShadowTheatreModel", qt_12, 26)]
def qw_nth {α : Type} (l : List α) (k : Nat) (d : α) : α := match l, k with
  | [], _ => d
  | a :: _, 0 => a
  | _ :: l, k + 1 => qw_nth l k d
theorem qw_nth_all {α : Type} {P : α → Prop} {d : α} (hd : P d) : ∀ {l : List α} (k : Nat), (∀ a ∈ l, P a) → P (qw_nth l k d)
  | [], k, _ => hd
  | a :: l, 0, h => h a List.mem_cons_self
  | a :: l, k + 1, h => qw_nth_all hd k (fun x hx => h x (List.mem_cons_of_mem _ hx))
theorem qw_ka0 {j : Nat} (h : (Nat.beq j 0 && Nat.blt 0 j) = true) : False := by
  cases j with
  | zero => simp [Nat.blt] at h
  | succ n => simp at h
theorem qw_all {α : Type} {P : Nat → α → Prop} {l : List (Nat × α)} (h : ∀ q ∈ l, P q.1 q.2) (j : Nat) (q : α) (hq : qw_lk l j = some q) : P j q := h (j, q) (qw_lk_mem hq)
def qc_nst : List (String × Nat × String × String × String × String) := [("ShadowTheatre$Show", 54, "ShadowTheatre$Row", "count", "I", "ShadowTheatre"),
  ("ShadowTheatre$Cues", 22, "ShadowTheatre$Row", "count", "I", "ShadowTheatre"),
  ("ShadowTheatre$Troupe", 31, "ShadowTheatre$Row", "count", "I", "ShadowTheatre"),
  ("ShadowTheatre$Picture", 29, "ShadowTheatre$Row", "count", "I", "ShadowTheatre"),
  ("ShadowTheatre", 89, "ShadowTheatre$Row", "count", "I", "ShadowTheatre"),
  ("ShadowTheatre$Witness", 39, "ShadowTheatre$Row", "count", "I", "ShadowTheatre"),
  ("ShadowTheatre$Stage", 49, "ShadowTheatre$Troupe", "depth", "[I", "ShadowTheatre"),
  ("ShadowTheatre$Stage", 52, "ShadowTheatre$Troupe", "place", "[I", "ShadowTheatre"),
  ("ShadowTheatre$Stage", 53, "ShadowTheatre$Troupe", "colour", "[I", "ShadowTheatre"),
  ("ShadowTheatre$Stage", 80, "ShadowTheatre$Troupe", "marks", "[I", "ShadowTheatre"),
  ("ShadowTheatre$Stage", 62, "ShadowTheatre$Troupe", "card", "[I", "ShadowTheatre"),
  ("ShadowTheatre$Planner", 109, "ShadowTheatre$Troupe", "count", "I", "ShadowTheatre"),
  ("ShadowTheatre$Chance", 119, "ShadowTheatre$Troupe", "count", "I", "ShadowTheatre"),
  ("ShadowTheatre$Show", 100, "ShadowTheatre$Troupe", "count", "I", "ShadowTheatre"),
  ("ShadowTheatre$Stage", 77, "ShadowTheatre$Troupe", "count", "I", "ShadowTheatre"),
  ("ShadowTheatre", 283, "ShadowTheatre$Troupe", "count", "I", "ShadowTheatre"),
  ("ShadowTheatre", 104, "ShadowTheatre$Troupe", "faultPlace", "I", "ShadowTheatre"),
  ("ShadowTheatre", 113, "ShadowTheatre$Cues", "faultPlace", "I", "ShadowTheatre"),
  ("ShadowTheatre$Picture", 45, "ShadowTheatre$Glow", "red", "I", "ShadowTheatre"),
  ("ShadowTheatre$Picture", 48, "ShadowTheatre$Glow", "green", "I", "ShadowTheatre"),
  ("ShadowTheatre$Picture", 51, "ShadowTheatre$Glow", "blue", "I", "ShadowTheatre"),
  ("ShadowTheatre", 287, "ShadowTheatre$Picture", "told", "I", "ShadowTheatre"),
  ("ShadowTheatre", 120, "ShadowTheatre$Picture", "faultPlace", "I", "ShadowTheatre"),
  ("ShadowTheatre$Planner", 57, "ShadowTheatre$Stage", "glow", "LShadowTheatre$Glow;", "ShadowTheatre"),
  ("ShadowTheatre$Witness", 79, "ShadowTheatre$Stage", "glow", "LShadowTheatre$Glow;", "ShadowTheatre"),
  ("ShadowTheatre$Show", 85, "ShadowTheatre$Stage", "glow", "LShadowTheatre$Glow;", "ShadowTheatre"),
  ("ShadowTheatre$Chance", 106, "ShadowTheatre$Stage", "glow", "LShadowTheatre$Glow;", "ShadowTheatre"),
  ("ShadowTheatre", 163, "ShadowTheatre$Stage", "glow", "LShadowTheatre$Glow;", "ShadowTheatre"),
  ("ShadowTheatre$Planner", 94, "ShadowTheatre$Stage", "lamp", "I", "ShadowTheatre"),
  ("ShadowTheatre$Chance", 55, "ShadowTheatre$Show", "figures", "LShadowTheatre$Troupe;", "ShadowTheatre"),
  ("ShadowTheatre", 100, "ShadowTheatre$Show", "figures", "LShadowTheatre$Troupe;", "ShadowTheatre"),
  ("ShadowTheatre$Planner", 105, "ShadowTheatre$Show", "figures", "LShadowTheatre$Troupe;", "ShadowTheatre"),
  ("ShadowTheatre$Chance", 61, "ShadowTheatre$Show", "cues", "LShadowTheatre$Cues;", "ShadowTheatre"),
  ("ShadowTheatre$Witness", 50, "ShadowTheatre$Show", "cues", "LShadowTheatre$Cues;", "ShadowTheatre"),
  ("ShadowTheatre", 109, "ShadowTheatre$Show", "cues", "LShadowTheatre$Cues;", "ShadowTheatre"),
  ("ShadowTheatre", 116, "ShadowTheatre$Show", "picture", "LShadowTheatre$Picture;", "ShadowTheatre"),
  ("ShadowTheatre", 143, "ShadowTheatre$Show", "flickers", "LShadowTheatre$Row;", "ShadowTheatre"),
  ("ShadowTheatre$Witness", 28, "ShadowTheatre$Show", "stage", "LShadowTheatre$Stage;", "ShadowTheatre"),
  ("ShadowTheatre$Planner", 32, "ShadowTheatre$Show", "stage", "LShadowTheatre$Stage;", "ShadowTheatre"),
  ("ShadowTheatre", 61, "ShadowTheatre$Show", "stage", "LShadowTheatre$Stage;", "ShadowTheatre"),
  ("ShadowTheatre$Chance", 80, "ShadowTheatre$Show", "stage", "LShadowTheatre$Stage;", "ShadowTheatre"),
  ("ShadowTheatre", 140, "ShadowTheatre$Show", "lamp", "I", "ShadowTheatre"),
  ("ShadowTheatre", 217, "ShadowTheatre$Witness", "sights", "LShadowTheatre$Row;", "ShadowTheatre"),
  ("ShadowTheatre", 240, "ShadowTheatre$Chance", "above", "J", "ShadowTheatre"),
  ("ShadowTheatre", 244, "ShadowTheatre$Chance", "below", "J", "ShadowTheatre"),
  ("ShadowTheatre", 268, "ShadowTheatre$Sheet", "items", "[I", "ShadowTheatre"),
  ("ShadowTheatre", 262, "ShadowTheatre$Sheet", "form", "I", "ShadowTheatre"),
  ("ShadowTheatre", 156, "ShadowTheatre$Sheet", "count", "I", "ShadowTheatre")]
def qc_kd (ci j : Nat) : Nat := qw_nth (qw_nth [[0, 0, 2, 2], [0, 0, 1, 1], [1, 1, 1], [0, 1, 1], [0, 0, 0, 0, 0, 0], [0, 1], [0, 1, 1], [0, 0, 0, 0, 0, 1], [0, 0, 0, 0, 0, 0, 0, 0, 1], [0, 0, 0, 0, 0, 1, 1], [0, 0, 0, 0], [0, 0, 0, 0, 0, 0, 0, 0, 1], [0, 0, 0, 0, 1, 0, 0, 1, 0, 0, 0, 0, 0, 1, 1, 0, 0, 0, 0, 0, 1, 1, 1, 0, 0, 1]] ci []) j 0
def wC_cs : List (qw_R → qw_E) := [
  fun r => .inr (.inr (11, [.ref 1, .ref 3, .ref 5, .ref 7, .ref 29, .ref 34, .ref 38, .ref 42, .int (r.1 8)])),
  fun r => .inr (.inr (5, [.ref 2, .int (r.1 1)])),
  fun _ => .inl (0, 87),
  fun r => .inr (.inr (5, [.ref 4, .int (r.1 1)])),
  fun _ => .inl (0, 40),
  fun r => .inr (.inr (5, [.ref 6, .int (r.1 1)])),
  fun _ => .inl (0, 32),
  fun r => .inr (.inr (7, [.ref 8, .ref 14, .ref 17, .ref 19, .ref 21, .int (r.1 5)])),
  fun r => .inr (.inr (9, [.ref 9, .ref 10, .ref 11, .ref 12, .ref 13, .int (r.1 5), .int (r.1 6)])),
  fun _ => .inl (0, 8),
  fun _ => .inl (0, 8),
  fun _ => .inl (0, 8),
  fun _ => .inl (0, 8),
  fun _ => .inl (0, 8),
  fun r => .inr (.inr (1, [.ref 15, .ref 16, .int (r.1 2), .int (r.1 3)])),
  fun _ => .inl (0, 20),
  fun _ => .inl (0, 20),
  fun r => .inr (.inr (3, [.ref 18, .int (r.1 1), .int (r.1 2)])),
  fun r => .inr (.inr (2, [.int (r.1 0), .int (r.1 1), .int (r.1 2)])),
  fun r => .inr (.inr (5, [.ref 20, .int (r.1 1)])),
  fun _ => .inl (0, 8),
  fun r => .inr (.inr (8, [.ref 8, .ref 22, .ref 23, .ref 24, .ref 25, .ref 26, .ref 27, .ref 28, .int (r.1 8)])),
  fun _ => .inl (0, 8192),
  fun _ => .inl (0, 8),
  fun _ => .inl (0, 8),
  fun _ => .inl (0, 8),
  fun _ => .inl (0, 8),
  fun _ => .inl (0, 8),
  fun r => .inr (.inr (2, [.int (r.1 0), .int (r.1 1), .int (r.1 2)])),
  fun r => .inr (.inr (4, [.ref 7, .ref 21, .ref 30, .ref 31, .ref 32, .ref 33])),
  fun r => .inr (.inr (2, [.int (r.1 0), .int (r.1 1), .int (r.1 2)])),
  fun _ => .inl (0, 9),
  fun _ => .inl (0, 32),
  fun _ => .inl (0, 3),
  fun r => .inr (.inr (10, [.ref 7, .ref 21, .ref 35, .ref 37])),
  fun r => .inr (.inr (5, [.ref 36, .int (r.1 1)])),
  fun _ => .inl (0, 8),
  fun _ => .inl (0, 256),
  fun r => .inr (.inr (0, [.ref 7, .ref 39, .long (r.2 2), .long (r.2 3)])),
  fun r => .inr (.inr (1, [.ref 40, .ref 41, .int (r.1 2), .int (r.1 3)])),
  fun _ => .inl (0, 20),
  fun _ => .inl (0, 20),
  fun _ => .inr (.inl (2, 4, fun i => match Nat.blt i 4 with | true => some (43 + i) | false => none)),
  fun r => .inr (.inr (6, [.ref 47, .int (r.1 1), .int (r.1 2)])),
  fun r => .inr (.inr (6, [.ref 48, .int (r.1 1), .int (r.1 2)])),
  fun r => .inr (.inr (6, [.ref 49, .int (r.1 1), .int (r.1 2)])),
  fun r => .inr (.inr (6, [.ref 50, .int (r.1 1), .int (r.1 2)])),
  fun _ => .inl (0, 60),
  fun _ => .inl (0, 60),
  fun _ => .inl (0, 60),
  fun _ => .inl (0, 60),
  fun _ => .inl (1, 4),
  fun _ => .inl (1, 4)]
def wC_cf (k : Nat) : qw_R → qw_E := qw_nth wC_cs k (fun _ => .inl (9, 0))
def wC : qw_Wd := (qc_cl, 51, wC_cf, 3, fun t => (match t with | 0 => FieldType.int | 1 => .byte | _ => .object "ShadowTheatre$Sheet"), 2, fun k => (fun j => qw_nth (qw_nth [[107, 114, 103, 98], [108, 114, 102, 98]] (k - 51) []) j 0, fun _ => 0), [("java/lang/String", "COMPACT_STRINGS", "Z", .int 1)], qc_kd, qc_nst, 2, [("ShadowTheatre$Troupe", 45, "krgb", 0), ("ShadowTheatre$Cues", 36, "lrfb", 1)])
theorem wC_tok : qw_tok wC := ⟨rfl, rfl, ⟨_, rfl⟩, by decide, rfl⟩
def wC_gd (f : qw_R → qw_E) : Prop := (∀ r q, f r = .inl q → ∀ r', f r' = .inl q) ∧ (∀ r c, f r = .inr (.inr c) → ∀ j, (qc_kd c.1 j = 1 → j < c.2.length ∧ ∀ x, f (upd r.1 j x, r.2) = .inr (.inr (c.1, c.2.set j (.int x)))) ∧ (qc_kd c.1 j = 2 → j < c.2.length ∧ ∀ x, f (r.1, vp_updL r.2 j x) = .inr (.inr (c.1, c.2.set j (.long x)))))
theorem wC_ga (q : Nat × Nat) : wC_gd (fun _ => .inl q) := ⟨fun r q2 h r' => h, fun r c h => (by cases h)⟩
theorem wC_gq (q : Nat × Nat × (Nat → Option Nat)) : wC_gd (fun _ => .inr (.inl q)) := ⟨fun r q2 h => (by cases h), fun r c h => (by cases h)⟩
theorem wC_g0 : wC_gd (fun r => .inr (.inr (11, [.ref 1, .ref 3, .ref 5, .ref 7, .ref 29, .ref 34, .ref 38, .ref 42, .int (r.1 8)]))) := by
  refine ⟨fun r q h => (by cases h), fun r c h j => ?_⟩
  cases h
  match j with
  | 0 => exact ⟨fun h => absurd h (show ¬ (0 : Nat) = 1 by decide), fun h => absurd h (show ¬ (0 : Nat) = 2 by decide)⟩
  | 1 => exact ⟨fun h => absurd h (show ¬ (0 : Nat) = 1 by decide), fun h => absurd h (show ¬ (0 : Nat) = 2 by decide)⟩
  | 2 => exact ⟨fun h => absurd h (show ¬ (0 : Nat) = 1 by decide), fun h => absurd h (show ¬ (0 : Nat) = 2 by decide)⟩
  | 3 => exact ⟨fun h => absurd h (show ¬ (0 : Nat) = 1 by decide), fun h => absurd h (show ¬ (0 : Nat) = 2 by decide)⟩
  | 4 => exact ⟨fun h => absurd h (show ¬ (0 : Nat) = 1 by decide), fun h => absurd h (show ¬ (0 : Nat) = 2 by decide)⟩
  | 5 => exact ⟨fun h => absurd h (show ¬ (0 : Nat) = 1 by decide), fun h => absurd h (show ¬ (0 : Nat) = 2 by decide)⟩
  | 6 => exact ⟨fun h => absurd h (show ¬ (0 : Nat) = 1 by decide), fun h => absurd h (show ¬ (0 : Nat) = 2 by decide)⟩
  | 7 => exact ⟨fun h => absurd h (show ¬ (0 : Nat) = 1 by decide), fun h => absurd h (show ¬ (0 : Nat) = 2 by decide)⟩
  | 8 => exact ⟨fun _ => ⟨Nat.le_of_ble_eq_true rfl, fun x => rfl⟩, fun h => absurd h (show ¬ (1 : Nat) = 2 by decide)⟩
  | _ + 9 => exact ⟨fun h => absurd h (show ¬ (0 : Nat) = 1 by decide), fun h => absurd h (show ¬ (0 : Nat) = 2 by decide)⟩
theorem wC_g1 : wC_gd (fun r => .inr (.inr (5, [.ref 2, .int (r.1 1)]))) := by
  refine ⟨fun r q h => (by cases h), fun r c h j => ?_⟩
  cases h
  match j with
  | 0 => exact ⟨fun h => absurd h (show ¬ (0 : Nat) = 1 by decide), fun h => absurd h (show ¬ (0 : Nat) = 2 by decide)⟩
  | 1 => exact ⟨fun _ => ⟨Nat.le_of_ble_eq_true rfl, fun x => rfl⟩, fun h => absurd h (show ¬ (1 : Nat) = 2 by decide)⟩
  | _ + 2 => exact ⟨fun h => absurd h (show ¬ (0 : Nat) = 1 by decide), fun h => absurd h (show ¬ (0 : Nat) = 2 by decide)⟩
theorem wC_g3 : wC_gd (fun r => .inr (.inr (5, [.ref 4, .int (r.1 1)]))) := by
  refine ⟨fun r q h => (by cases h), fun r c h j => ?_⟩
  cases h
  match j with
  | 0 => exact ⟨fun h => absurd h (show ¬ (0 : Nat) = 1 by decide), fun h => absurd h (show ¬ (0 : Nat) = 2 by decide)⟩
  | 1 => exact ⟨fun _ => ⟨Nat.le_of_ble_eq_true rfl, fun x => rfl⟩, fun h => absurd h (show ¬ (1 : Nat) = 2 by decide)⟩
  | _ + 2 => exact ⟨fun h => absurd h (show ¬ (0 : Nat) = 1 by decide), fun h => absurd h (show ¬ (0 : Nat) = 2 by decide)⟩
theorem wC_g5 : wC_gd (fun r => .inr (.inr (5, [.ref 6, .int (r.1 1)]))) := by
  refine ⟨fun r q h => (by cases h), fun r c h j => ?_⟩
  cases h
  match j with
  | 0 => exact ⟨fun h => absurd h (show ¬ (0 : Nat) = 1 by decide), fun h => absurd h (show ¬ (0 : Nat) = 2 by decide)⟩
  | 1 => exact ⟨fun _ => ⟨Nat.le_of_ble_eq_true rfl, fun x => rfl⟩, fun h => absurd h (show ¬ (1 : Nat) = 2 by decide)⟩
  | _ + 2 => exact ⟨fun h => absurd h (show ¬ (0 : Nat) = 1 by decide), fun h => absurd h (show ¬ (0 : Nat) = 2 by decide)⟩
theorem wC_g7 : wC_gd (fun r => .inr (.inr (7, [.ref 8, .ref 14, .ref 17, .ref 19, .ref 21, .int (r.1 5)]))) := by
  refine ⟨fun r q h => (by cases h), fun r c h j => ?_⟩
  cases h
  match j with
  | 0 => exact ⟨fun h => absurd h (show ¬ (0 : Nat) = 1 by decide), fun h => absurd h (show ¬ (0 : Nat) = 2 by decide)⟩
  | 1 => exact ⟨fun h => absurd h (show ¬ (0 : Nat) = 1 by decide), fun h => absurd h (show ¬ (0 : Nat) = 2 by decide)⟩
  | 2 => exact ⟨fun h => absurd h (show ¬ (0 : Nat) = 1 by decide), fun h => absurd h (show ¬ (0 : Nat) = 2 by decide)⟩
  | 3 => exact ⟨fun h => absurd h (show ¬ (0 : Nat) = 1 by decide), fun h => absurd h (show ¬ (0 : Nat) = 2 by decide)⟩
  | 4 => exact ⟨fun h => absurd h (show ¬ (0 : Nat) = 1 by decide), fun h => absurd h (show ¬ (0 : Nat) = 2 by decide)⟩
  | 5 => exact ⟨fun _ => ⟨Nat.le_of_ble_eq_true rfl, fun x => rfl⟩, fun h => absurd h (show ¬ (1 : Nat) = 2 by decide)⟩
  | _ + 6 => exact ⟨fun h => absurd h (show ¬ (0 : Nat) = 1 by decide), fun h => absurd h (show ¬ (0 : Nat) = 2 by decide)⟩
theorem wC_g8 : wC_gd (fun r => .inr (.inr (9, [.ref 9, .ref 10, .ref 11, .ref 12, .ref 13, .int (r.1 5), .int (r.1 6)]))) := by
  refine ⟨fun r q h => (by cases h), fun r c h j => ?_⟩
  cases h
  match j with
  | 0 => exact ⟨fun h => absurd h (show ¬ (0 : Nat) = 1 by decide), fun h => absurd h (show ¬ (0 : Nat) = 2 by decide)⟩
  | 1 => exact ⟨fun h => absurd h (show ¬ (0 : Nat) = 1 by decide), fun h => absurd h (show ¬ (0 : Nat) = 2 by decide)⟩
  | 2 => exact ⟨fun h => absurd h (show ¬ (0 : Nat) = 1 by decide), fun h => absurd h (show ¬ (0 : Nat) = 2 by decide)⟩
  | 3 => exact ⟨fun h => absurd h (show ¬ (0 : Nat) = 1 by decide), fun h => absurd h (show ¬ (0 : Nat) = 2 by decide)⟩
  | 4 => exact ⟨fun h => absurd h (show ¬ (0 : Nat) = 1 by decide), fun h => absurd h (show ¬ (0 : Nat) = 2 by decide)⟩
  | 5 => exact ⟨fun _ => ⟨Nat.le_of_ble_eq_true rfl, fun x => rfl⟩, fun h => absurd h (show ¬ (1 : Nat) = 2 by decide)⟩
  | 6 => exact ⟨fun _ => ⟨Nat.le_of_ble_eq_true rfl, fun x => rfl⟩, fun h => absurd h (show ¬ (1 : Nat) = 2 by decide)⟩
  | _ + 7 => exact ⟨fun h => absurd h (show ¬ (0 : Nat) = 1 by decide), fun h => absurd h (show ¬ (0 : Nat) = 2 by decide)⟩
theorem wC_g14 : wC_gd (fun r => .inr (.inr (1, [.ref 15, .ref 16, .int (r.1 2), .int (r.1 3)]))) := by
  refine ⟨fun r q h => (by cases h), fun r c h j => ?_⟩
  cases h
  match j with
  | 0 => exact ⟨fun h => absurd h (show ¬ (0 : Nat) = 1 by decide), fun h => absurd h (show ¬ (0 : Nat) = 2 by decide)⟩
  | 1 => exact ⟨fun h => absurd h (show ¬ (0 : Nat) = 1 by decide), fun h => absurd h (show ¬ (0 : Nat) = 2 by decide)⟩
  | 2 => exact ⟨fun _ => ⟨Nat.le_of_ble_eq_true rfl, fun x => rfl⟩, fun h => absurd h (show ¬ (1 : Nat) = 2 by decide)⟩
  | 3 => exact ⟨fun _ => ⟨Nat.le_of_ble_eq_true rfl, fun x => rfl⟩, fun h => absurd h (show ¬ (1 : Nat) = 2 by decide)⟩
  | _ + 4 => exact ⟨fun h => absurd h (show ¬ (0 : Nat) = 1 by decide), fun h => absurd h (show ¬ (0 : Nat) = 2 by decide)⟩
theorem wC_g17 : wC_gd (fun r => .inr (.inr (3, [.ref 18, .int (r.1 1), .int (r.1 2)]))) := by
  refine ⟨fun r q h => (by cases h), fun r c h j => ?_⟩
  cases h
  match j with
  | 0 => exact ⟨fun h => absurd h (show ¬ (0 : Nat) = 1 by decide), fun h => absurd h (show ¬ (0 : Nat) = 2 by decide)⟩
  | 1 => exact ⟨fun _ => ⟨Nat.le_of_ble_eq_true rfl, fun x => rfl⟩, fun h => absurd h (show ¬ (1 : Nat) = 2 by decide)⟩
  | 2 => exact ⟨fun _ => ⟨Nat.le_of_ble_eq_true rfl, fun x => rfl⟩, fun h => absurd h (show ¬ (1 : Nat) = 2 by decide)⟩
  | _ + 3 => exact ⟨fun h => absurd h (show ¬ (0 : Nat) = 1 by decide), fun h => absurd h (show ¬ (0 : Nat) = 2 by decide)⟩
theorem wC_g18 : wC_gd (fun r => .inr (.inr (2, [.int (r.1 0), .int (r.1 1), .int (r.1 2)]))) := by
  refine ⟨fun r q h => (by cases h), fun r c h j => ?_⟩
  cases h
  match j with
  | 0 => exact ⟨fun _ => ⟨Nat.le_of_ble_eq_true rfl, fun x => rfl⟩, fun h => absurd h (show ¬ (1 : Nat) = 2 by decide)⟩
  | 1 => exact ⟨fun _ => ⟨Nat.le_of_ble_eq_true rfl, fun x => rfl⟩, fun h => absurd h (show ¬ (1 : Nat) = 2 by decide)⟩
  | 2 => exact ⟨fun _ => ⟨Nat.le_of_ble_eq_true rfl, fun x => rfl⟩, fun h => absurd h (show ¬ (1 : Nat) = 2 by decide)⟩
  | _ + 3 => exact ⟨fun h => absurd h (show ¬ (0 : Nat) = 1 by decide), fun h => absurd h (show ¬ (0 : Nat) = 2 by decide)⟩
theorem wC_g19 : wC_gd (fun r => .inr (.inr (5, [.ref 20, .int (r.1 1)]))) := by
  refine ⟨fun r q h => (by cases h), fun r c h j => ?_⟩
  cases h
  match j with
  | 0 => exact ⟨fun h => absurd h (show ¬ (0 : Nat) = 1 by decide), fun h => absurd h (show ¬ (0 : Nat) = 2 by decide)⟩
  | 1 => exact ⟨fun _ => ⟨Nat.le_of_ble_eq_true rfl, fun x => rfl⟩, fun h => absurd h (show ¬ (1 : Nat) = 2 by decide)⟩
  | _ + 2 => exact ⟨fun h => absurd h (show ¬ (0 : Nat) = 1 by decide), fun h => absurd h (show ¬ (0 : Nat) = 2 by decide)⟩
theorem wC_g21 : wC_gd (fun r => .inr (.inr (8, [.ref 8, .ref 22, .ref 23, .ref 24, .ref 25, .ref 26, .ref 27, .ref 28, .int (r.1 8)]))) := by
  refine ⟨fun r q h => (by cases h), fun r c h j => ?_⟩
  cases h
  match j with
  | 0 => exact ⟨fun h => absurd h (show ¬ (0 : Nat) = 1 by decide), fun h => absurd h (show ¬ (0 : Nat) = 2 by decide)⟩
  | 1 => exact ⟨fun h => absurd h (show ¬ (0 : Nat) = 1 by decide), fun h => absurd h (show ¬ (0 : Nat) = 2 by decide)⟩
  | 2 => exact ⟨fun h => absurd h (show ¬ (0 : Nat) = 1 by decide), fun h => absurd h (show ¬ (0 : Nat) = 2 by decide)⟩
  | 3 => exact ⟨fun h => absurd h (show ¬ (0 : Nat) = 1 by decide), fun h => absurd h (show ¬ (0 : Nat) = 2 by decide)⟩
  | 4 => exact ⟨fun h => absurd h (show ¬ (0 : Nat) = 1 by decide), fun h => absurd h (show ¬ (0 : Nat) = 2 by decide)⟩
  | 5 => exact ⟨fun h => absurd h (show ¬ (0 : Nat) = 1 by decide), fun h => absurd h (show ¬ (0 : Nat) = 2 by decide)⟩
  | 6 => exact ⟨fun h => absurd h (show ¬ (0 : Nat) = 1 by decide), fun h => absurd h (show ¬ (0 : Nat) = 2 by decide)⟩
  | 7 => exact ⟨fun h => absurd h (show ¬ (0 : Nat) = 1 by decide), fun h => absurd h (show ¬ (0 : Nat) = 2 by decide)⟩
  | 8 => exact ⟨fun _ => ⟨Nat.le_of_ble_eq_true rfl, fun x => rfl⟩, fun h => absurd h (show ¬ (1 : Nat) = 2 by decide)⟩
  | _ + 9 => exact ⟨fun h => absurd h (show ¬ (0 : Nat) = 1 by decide), fun h => absurd h (show ¬ (0 : Nat) = 2 by decide)⟩
theorem wC_g28 : wC_gd (fun r => .inr (.inr (2, [.int (r.1 0), .int (r.1 1), .int (r.1 2)]))) := by
  refine ⟨fun r q h => (by cases h), fun r c h j => ?_⟩
  cases h
  match j with
  | 0 => exact ⟨fun _ => ⟨Nat.le_of_ble_eq_true rfl, fun x => rfl⟩, fun h => absurd h (show ¬ (1 : Nat) = 2 by decide)⟩
  | 1 => exact ⟨fun _ => ⟨Nat.le_of_ble_eq_true rfl, fun x => rfl⟩, fun h => absurd h (show ¬ (1 : Nat) = 2 by decide)⟩
  | 2 => exact ⟨fun _ => ⟨Nat.le_of_ble_eq_true rfl, fun x => rfl⟩, fun h => absurd h (show ¬ (1 : Nat) = 2 by decide)⟩
  | _ + 3 => exact ⟨fun h => absurd h (show ¬ (0 : Nat) = 1 by decide), fun h => absurd h (show ¬ (0 : Nat) = 2 by decide)⟩
theorem wC_g29 : wC_gd (fun r => .inr (.inr (4, [.ref 7, .ref 21, .ref 30, .ref 31, .ref 32, .ref 33]))) := by
  refine ⟨fun r q h => (by cases h), fun r c h j => ?_⟩
  cases h
  match j with
  | 0 => exact ⟨fun h => absurd h (show ¬ (0 : Nat) = 1 by decide), fun h => absurd h (show ¬ (0 : Nat) = 2 by decide)⟩
  | 1 => exact ⟨fun h => absurd h (show ¬ (0 : Nat) = 1 by decide), fun h => absurd h (show ¬ (0 : Nat) = 2 by decide)⟩
  | 2 => exact ⟨fun h => absurd h (show ¬ (0 : Nat) = 1 by decide), fun h => absurd h (show ¬ (0 : Nat) = 2 by decide)⟩
  | 3 => exact ⟨fun h => absurd h (show ¬ (0 : Nat) = 1 by decide), fun h => absurd h (show ¬ (0 : Nat) = 2 by decide)⟩
  | 4 => exact ⟨fun h => absurd h (show ¬ (0 : Nat) = 1 by decide), fun h => absurd h (show ¬ (0 : Nat) = 2 by decide)⟩
  | 5 => exact ⟨fun h => absurd h (show ¬ (0 : Nat) = 1 by decide), fun h => absurd h (show ¬ (0 : Nat) = 2 by decide)⟩
  | _ + 6 => exact ⟨fun h => absurd h (show ¬ (0 : Nat) = 1 by decide), fun h => absurd h (show ¬ (0 : Nat) = 2 by decide)⟩
theorem wC_g30 : wC_gd (fun r => .inr (.inr (2, [.int (r.1 0), .int (r.1 1), .int (r.1 2)]))) := by
  refine ⟨fun r q h => (by cases h), fun r c h j => ?_⟩
  cases h
  match j with
  | 0 => exact ⟨fun _ => ⟨Nat.le_of_ble_eq_true rfl, fun x => rfl⟩, fun h => absurd h (show ¬ (1 : Nat) = 2 by decide)⟩
  | 1 => exact ⟨fun _ => ⟨Nat.le_of_ble_eq_true rfl, fun x => rfl⟩, fun h => absurd h (show ¬ (1 : Nat) = 2 by decide)⟩
  | 2 => exact ⟨fun _ => ⟨Nat.le_of_ble_eq_true rfl, fun x => rfl⟩, fun h => absurd h (show ¬ (1 : Nat) = 2 by decide)⟩
  | _ + 3 => exact ⟨fun h => absurd h (show ¬ (0 : Nat) = 1 by decide), fun h => absurd h (show ¬ (0 : Nat) = 2 by decide)⟩
theorem wC_g34 : wC_gd (fun r => .inr (.inr (10, [.ref 7, .ref 21, .ref 35, .ref 37]))) := by
  refine ⟨fun r q h => (by cases h), fun r c h j => ?_⟩
  cases h
  match j with
  | 0 => exact ⟨fun h => absurd h (show ¬ (0 : Nat) = 1 by decide), fun h => absurd h (show ¬ (0 : Nat) = 2 by decide)⟩
  | 1 => exact ⟨fun h => absurd h (show ¬ (0 : Nat) = 1 by decide), fun h => absurd h (show ¬ (0 : Nat) = 2 by decide)⟩
  | 2 => exact ⟨fun h => absurd h (show ¬ (0 : Nat) = 1 by decide), fun h => absurd h (show ¬ (0 : Nat) = 2 by decide)⟩
  | 3 => exact ⟨fun h => absurd h (show ¬ (0 : Nat) = 1 by decide), fun h => absurd h (show ¬ (0 : Nat) = 2 by decide)⟩
  | _ + 4 => exact ⟨fun h => absurd h (show ¬ (0 : Nat) = 1 by decide), fun h => absurd h (show ¬ (0 : Nat) = 2 by decide)⟩
theorem wC_g35 : wC_gd (fun r => .inr (.inr (5, [.ref 36, .int (r.1 1)]))) := by
  refine ⟨fun r q h => (by cases h), fun r c h j => ?_⟩
  cases h
  match j with
  | 0 => exact ⟨fun h => absurd h (show ¬ (0 : Nat) = 1 by decide), fun h => absurd h (show ¬ (0 : Nat) = 2 by decide)⟩
  | 1 => exact ⟨fun _ => ⟨Nat.le_of_ble_eq_true rfl, fun x => rfl⟩, fun h => absurd h (show ¬ (1 : Nat) = 2 by decide)⟩
  | _ + 2 => exact ⟨fun h => absurd h (show ¬ (0 : Nat) = 1 by decide), fun h => absurd h (show ¬ (0 : Nat) = 2 by decide)⟩
theorem wC_g38 : wC_gd (fun r => .inr (.inr (0, [.ref 7, .ref 39, .long (r.2 2), .long (r.2 3)]))) := by
  refine ⟨fun r q h => (by cases h), fun r c h j => ?_⟩
  cases h
  match j with
  | 0 => exact ⟨fun h => absurd h (show ¬ (0 : Nat) = 1 by decide), fun h => absurd h (show ¬ (0 : Nat) = 2 by decide)⟩
  | 1 => exact ⟨fun h => absurd h (show ¬ (0 : Nat) = 1 by decide), fun h => absurd h (show ¬ (0 : Nat) = 2 by decide)⟩
  | 2 => exact ⟨fun h => absurd h (show ¬ (2 : Nat) = 1 by decide), fun _ => ⟨Nat.le_of_ble_eq_true rfl, fun x => rfl⟩⟩
  | 3 => exact ⟨fun h => absurd h (show ¬ (2 : Nat) = 1 by decide), fun _ => ⟨Nat.le_of_ble_eq_true rfl, fun x => rfl⟩⟩
  | _ + 4 => exact ⟨fun h => absurd h (show ¬ (0 : Nat) = 1 by decide), fun h => absurd h (show ¬ (0 : Nat) = 2 by decide)⟩
theorem wC_g39 : wC_gd (fun r => .inr (.inr (1, [.ref 40, .ref 41, .int (r.1 2), .int (r.1 3)]))) := by
  refine ⟨fun r q h => (by cases h), fun r c h j => ?_⟩
  cases h
  match j with
  | 0 => exact ⟨fun h => absurd h (show ¬ (0 : Nat) = 1 by decide), fun h => absurd h (show ¬ (0 : Nat) = 2 by decide)⟩
  | 1 => exact ⟨fun h => absurd h (show ¬ (0 : Nat) = 1 by decide), fun h => absurd h (show ¬ (0 : Nat) = 2 by decide)⟩
  | 2 => exact ⟨fun _ => ⟨Nat.le_of_ble_eq_true rfl, fun x => rfl⟩, fun h => absurd h (show ¬ (1 : Nat) = 2 by decide)⟩
  | 3 => exact ⟨fun _ => ⟨Nat.le_of_ble_eq_true rfl, fun x => rfl⟩, fun h => absurd h (show ¬ (1 : Nat) = 2 by decide)⟩
  | _ + 4 => exact ⟨fun h => absurd h (show ¬ (0 : Nat) = 1 by decide), fun h => absurd h (show ¬ (0 : Nat) = 2 by decide)⟩
theorem wC_g43 : wC_gd (fun r => .inr (.inr (6, [.ref 47, .int (r.1 1), .int (r.1 2)]))) := by
  refine ⟨fun r q h => (by cases h), fun r c h j => ?_⟩
  cases h
  match j with
  | 0 => exact ⟨fun h => absurd h (show ¬ (0 : Nat) = 1 by decide), fun h => absurd h (show ¬ (0 : Nat) = 2 by decide)⟩
  | 1 => exact ⟨fun _ => ⟨Nat.le_of_ble_eq_true rfl, fun x => rfl⟩, fun h => absurd h (show ¬ (1 : Nat) = 2 by decide)⟩
  | 2 => exact ⟨fun _ => ⟨Nat.le_of_ble_eq_true rfl, fun x => rfl⟩, fun h => absurd h (show ¬ (1 : Nat) = 2 by decide)⟩
  | _ + 3 => exact ⟨fun h => absurd h (show ¬ (0 : Nat) = 1 by decide), fun h => absurd h (show ¬ (0 : Nat) = 2 by decide)⟩
theorem wC_g44 : wC_gd (fun r => .inr (.inr (6, [.ref 48, .int (r.1 1), .int (r.1 2)]))) := by
  refine ⟨fun r q h => (by cases h), fun r c h j => ?_⟩
  cases h
  match j with
  | 0 => exact ⟨fun h => absurd h (show ¬ (0 : Nat) = 1 by decide), fun h => absurd h (show ¬ (0 : Nat) = 2 by decide)⟩
  | 1 => exact ⟨fun _ => ⟨Nat.le_of_ble_eq_true rfl, fun x => rfl⟩, fun h => absurd h (show ¬ (1 : Nat) = 2 by decide)⟩
  | 2 => exact ⟨fun _ => ⟨Nat.le_of_ble_eq_true rfl, fun x => rfl⟩, fun h => absurd h (show ¬ (1 : Nat) = 2 by decide)⟩
  | _ + 3 => exact ⟨fun h => absurd h (show ¬ (0 : Nat) = 1 by decide), fun h => absurd h (show ¬ (0 : Nat) = 2 by decide)⟩
theorem wC_g45 : wC_gd (fun r => .inr (.inr (6, [.ref 49, .int (r.1 1), .int (r.1 2)]))) := by
  refine ⟨fun r q h => (by cases h), fun r c h j => ?_⟩
  cases h
  match j with
  | 0 => exact ⟨fun h => absurd h (show ¬ (0 : Nat) = 1 by decide), fun h => absurd h (show ¬ (0 : Nat) = 2 by decide)⟩
  | 1 => exact ⟨fun _ => ⟨Nat.le_of_ble_eq_true rfl, fun x => rfl⟩, fun h => absurd h (show ¬ (1 : Nat) = 2 by decide)⟩
  | 2 => exact ⟨fun _ => ⟨Nat.le_of_ble_eq_true rfl, fun x => rfl⟩, fun h => absurd h (show ¬ (1 : Nat) = 2 by decide)⟩
  | _ + 3 => exact ⟨fun h => absurd h (show ¬ (0 : Nat) = 1 by decide), fun h => absurd h (show ¬ (0 : Nat) = 2 by decide)⟩
theorem wC_g46 : wC_gd (fun r => .inr (.inr (6, [.ref 50, .int (r.1 1), .int (r.1 2)]))) := by
  refine ⟨fun r q h => (by cases h), fun r c h j => ?_⟩
  cases h
  match j with
  | 0 => exact ⟨fun h => absurd h (show ¬ (0 : Nat) = 1 by decide), fun h => absurd h (show ¬ (0 : Nat) = 2 by decide)⟩
  | 1 => exact ⟨fun _ => ⟨Nat.le_of_ble_eq_true rfl, fun x => rfl⟩, fun h => absurd h (show ¬ (1 : Nat) = 2 by decide)⟩
  | 2 => exact ⟨fun _ => ⟨Nat.le_of_ble_eq_true rfl, fun x => rfl⟩, fun h => absurd h (show ¬ (1 : Nat) = 2 by decide)⟩
  | _ + 3 => exact ⟨fun h => absurd h (show ¬ (0 : Nat) = 1 by decide), fun h => absurd h (show ¬ (0 : Nat) = 2 by decide)⟩
theorem wC_gall : ∀ f ∈ wC_cs, wC_gd f := List.forall_mem_cons.mpr ⟨wC_g0, List.forall_mem_cons.mpr ⟨wC_g1, List.forall_mem_cons.mpr ⟨wC_ga _, List.forall_mem_cons.mpr ⟨wC_g3, List.forall_mem_cons.mpr ⟨wC_ga _, List.forall_mem_cons.mpr ⟨wC_g5, List.forall_mem_cons.mpr ⟨wC_ga _, List.forall_mem_cons.mpr ⟨wC_g7, List.forall_mem_cons.mpr ⟨wC_g8, List.forall_mem_cons.mpr ⟨wC_ga _, List.forall_mem_cons.mpr ⟨wC_ga _, List.forall_mem_cons.mpr ⟨wC_ga _, List.forall_mem_cons.mpr ⟨wC_ga _, List.forall_mem_cons.mpr ⟨wC_ga _, List.forall_mem_cons.mpr ⟨wC_g14, List.forall_mem_cons.mpr ⟨wC_ga _, List.forall_mem_cons.mpr ⟨wC_ga _, List.forall_mem_cons.mpr ⟨wC_g17, List.forall_mem_cons.mpr ⟨wC_g18, List.forall_mem_cons.mpr ⟨wC_g19, List.forall_mem_cons.mpr ⟨wC_ga _, List.forall_mem_cons.mpr ⟨wC_g21, List.forall_mem_cons.mpr ⟨wC_ga _, List.forall_mem_cons.mpr ⟨wC_ga _, List.forall_mem_cons.mpr ⟨wC_ga _, List.forall_mem_cons.mpr ⟨wC_ga _, List.forall_mem_cons.mpr ⟨wC_ga _, List.forall_mem_cons.mpr ⟨wC_ga _, List.forall_mem_cons.mpr ⟨wC_g28, List.forall_mem_cons.mpr ⟨wC_g29, List.forall_mem_cons.mpr ⟨wC_g30, List.forall_mem_cons.mpr ⟨wC_ga _, List.forall_mem_cons.mpr ⟨wC_ga _, List.forall_mem_cons.mpr ⟨wC_ga _, List.forall_mem_cons.mpr ⟨wC_g34, List.forall_mem_cons.mpr ⟨wC_g35, List.forall_mem_cons.mpr ⟨wC_ga _, List.forall_mem_cons.mpr ⟨wC_ga _, List.forall_mem_cons.mpr ⟨wC_g38, List.forall_mem_cons.mpr ⟨wC_g39, List.forall_mem_cons.mpr ⟨wC_ga _, List.forall_mem_cons.mpr ⟨wC_ga _, List.forall_mem_cons.mpr ⟨wC_gq _, List.forall_mem_cons.mpr ⟨wC_g43, List.forall_mem_cons.mpr ⟨wC_g44, List.forall_mem_cons.mpr ⟨wC_g45, List.forall_mem_cons.mpr ⟨wC_g46, List.forall_mem_cons.mpr ⟨wC_ga _, List.forall_mem_cons.mpr ⟨wC_ga _, List.forall_mem_cons.mpr ⟨wC_ga _, List.forall_mem_cons.mpr ⟨wC_ga _, List.forall_mem_cons.mpr ⟨wC_ga _, List.forall_mem_cons.mpr ⟨wC_ga _, fun _ h => absurd h List.not_mem_nil⟩⟩⟩⟩⟩⟩⟩⟩⟩⟩⟩⟩⟩⟩⟩⟩⟩⟩⟩⟩⟩⟩⟩⟩⟩⟩⟩⟩⟩⟩⟩⟩⟩⟩⟩⟩⟩⟩⟩⟩⟩⟩⟩⟩⟩⟩⟩⟩⟩⟩⟩⟩⟩
theorem wC_wf : qw_wf wC := ⟨fun k => (qw_nth_all (wC_ga _) k wC_gall).1, fun k => (qw_nth_all (wC_ga _) k wC_gall).2⟩
def wM_cs : List (qw_R → qw_E) := [
  fun r => .inr (.inr (12, [.ref 1, .ref 2, .ref 3, .ref 4, .int (r.1 4), .ref 5, .ref 6, .int (r.1 7), .ref 7, .ref 8, .ref 9, .ref 10, .ref 11, .int (r.1 13), .int (r.1 14), .ref 12, .ref 13, .ref 14, .ref 15, .ref 16, .int (r.1 20), .int (r.1 21), .int (r.1 22), .ref 17, .ref 18, .int (r.1 25)])),
  fun _ => .inl (0, 4),
  fun _ => .inl (0, 4),
  fun _ => .inl (0, 240),
  fun _ => .inl (0, 60),
  fun _ => .inl (0, 264),
  fun _ => .inl (0, 3),
  fun _ => .inl (0, 32),
  fun _ => .inl (0, 8),
  fun _ => .inl (0, 20),
  fun _ => .inl (0, 20),
  fun _ => .inl (0, 32),
  fun _ => .inl (0, 8),
  fun _ => .inl (0, 160),
  fun _ => .inl (0, 160),
  fun _ => .inl (0, 8),
  fun _ => .inl (0, 8),
  fun _ => .inl (0, 24),
  fun _ => .inl (0, 256)]
def wM_cf (k : Nat) : qw_R → qw_E := qw_nth wM_cs k (fun _ => .inl (9, 0))
def wM : qw_Wd := (qc_cl, 19, wM_cf, 3, fun t => (match t with | 0 => FieldType.int | 1 => .byte | _ => .object "ShadowTheatre$Sheet"), 0, fun k => (fun j => qw_nth (qw_nth [] (k - 19) []) j 0, fun _ => 0), [], qc_kd, qc_nst, 0, [])
theorem wM_tok : qw_tok wM := ⟨rfl, rfl, ⟨_, rfl⟩, by decide, rfl⟩
def wM_gd (f : qw_R → qw_E) : Prop := (∀ r q, f r = .inl q → ∀ r', f r' = .inl q) ∧ (∀ r c, f r = .inr (.inr c) → ∀ j, (qc_kd c.1 j = 1 → j < c.2.length ∧ ∀ x, f (upd r.1 j x, r.2) = .inr (.inr (c.1, c.2.set j (.int x)))) ∧ (qc_kd c.1 j = 2 → j < c.2.length ∧ ∀ x, f (r.1, vp_updL r.2 j x) = .inr (.inr (c.1, c.2.set j (.long x)))))
theorem wM_ga (q : Nat × Nat) : wM_gd (fun _ => .inl q) := ⟨fun r q2 h r' => h, fun r c h => (by cases h)⟩
theorem wM_gq (q : Nat × Nat × (Nat → Option Nat)) : wM_gd (fun _ => .inr (.inl q)) := ⟨fun r q2 h => (by cases h), fun r c h => (by cases h)⟩
theorem wM_g0 : wM_gd (fun r => .inr (.inr (12, [.ref 1, .ref 2, .ref 3, .ref 4, .int (r.1 4), .ref 5, .ref 6, .int (r.1 7), .ref 7, .ref 8, .ref 9, .ref 10, .ref 11, .int (r.1 13), .int (r.1 14), .ref 12, .ref 13, .ref 14, .ref 15, .ref 16, .int (r.1 20), .int (r.1 21), .int (r.1 22), .ref 17, .ref 18, .int (r.1 25)]))) := by
  refine ⟨fun r q h => (by cases h), fun r c h j => ?_⟩
  cases h
  match j with
  | 0 => exact ⟨fun h => absurd h (show ¬ (0 : Nat) = 1 by decide), fun h => absurd h (show ¬ (0 : Nat) = 2 by decide)⟩
  | 1 => exact ⟨fun h => absurd h (show ¬ (0 : Nat) = 1 by decide), fun h => absurd h (show ¬ (0 : Nat) = 2 by decide)⟩
  | 2 => exact ⟨fun h => absurd h (show ¬ (0 : Nat) = 1 by decide), fun h => absurd h (show ¬ (0 : Nat) = 2 by decide)⟩
  | 3 => exact ⟨fun h => absurd h (show ¬ (0 : Nat) = 1 by decide), fun h => absurd h (show ¬ (0 : Nat) = 2 by decide)⟩
  | 4 => exact ⟨fun _ => ⟨Nat.le_of_ble_eq_true rfl, fun x => rfl⟩, fun h => absurd h (show ¬ (1 : Nat) = 2 by decide)⟩
  | 5 => exact ⟨fun h => absurd h (show ¬ (0 : Nat) = 1 by decide), fun h => absurd h (show ¬ (0 : Nat) = 2 by decide)⟩
  | 6 => exact ⟨fun h => absurd h (show ¬ (0 : Nat) = 1 by decide), fun h => absurd h (show ¬ (0 : Nat) = 2 by decide)⟩
  | 7 => exact ⟨fun _ => ⟨Nat.le_of_ble_eq_true rfl, fun x => rfl⟩, fun h => absurd h (show ¬ (1 : Nat) = 2 by decide)⟩
  | 8 => exact ⟨fun h => absurd h (show ¬ (0 : Nat) = 1 by decide), fun h => absurd h (show ¬ (0 : Nat) = 2 by decide)⟩
  | 9 => exact ⟨fun h => absurd h (show ¬ (0 : Nat) = 1 by decide), fun h => absurd h (show ¬ (0 : Nat) = 2 by decide)⟩
  | 10 => exact ⟨fun h => absurd h (show ¬ (0 : Nat) = 1 by decide), fun h => absurd h (show ¬ (0 : Nat) = 2 by decide)⟩
  | 11 => exact ⟨fun h => absurd h (show ¬ (0 : Nat) = 1 by decide), fun h => absurd h (show ¬ (0 : Nat) = 2 by decide)⟩
  | 12 => exact ⟨fun h => absurd h (show ¬ (0 : Nat) = 1 by decide), fun h => absurd h (show ¬ (0 : Nat) = 2 by decide)⟩
  | 13 => exact ⟨fun _ => ⟨Nat.le_of_ble_eq_true rfl, fun x => rfl⟩, fun h => absurd h (show ¬ (1 : Nat) = 2 by decide)⟩
  | 14 => exact ⟨fun _ => ⟨Nat.le_of_ble_eq_true rfl, fun x => rfl⟩, fun h => absurd h (show ¬ (1 : Nat) = 2 by decide)⟩
  | 15 => exact ⟨fun h => absurd h (show ¬ (0 : Nat) = 1 by decide), fun h => absurd h (show ¬ (0 : Nat) = 2 by decide)⟩
  | 16 => exact ⟨fun h => absurd h (show ¬ (0 : Nat) = 1 by decide), fun h => absurd h (show ¬ (0 : Nat) = 2 by decide)⟩
  | 17 => exact ⟨fun h => absurd h (show ¬ (0 : Nat) = 1 by decide), fun h => absurd h (show ¬ (0 : Nat) = 2 by decide)⟩
  | 18 => exact ⟨fun h => absurd h (show ¬ (0 : Nat) = 1 by decide), fun h => absurd h (show ¬ (0 : Nat) = 2 by decide)⟩
  | 19 => exact ⟨fun h => absurd h (show ¬ (0 : Nat) = 1 by decide), fun h => absurd h (show ¬ (0 : Nat) = 2 by decide)⟩
  | 20 => exact ⟨fun _ => ⟨Nat.le_of_ble_eq_true rfl, fun x => rfl⟩, fun h => absurd h (show ¬ (1 : Nat) = 2 by decide)⟩
  | 21 => exact ⟨fun _ => ⟨Nat.le_of_ble_eq_true rfl, fun x => rfl⟩, fun h => absurd h (show ¬ (1 : Nat) = 2 by decide)⟩
  | 22 => exact ⟨fun _ => ⟨Nat.le_of_ble_eq_true rfl, fun x => rfl⟩, fun h => absurd h (show ¬ (1 : Nat) = 2 by decide)⟩
  | 23 => exact ⟨fun h => absurd h (show ¬ (0 : Nat) = 1 by decide), fun h => absurd h (show ¬ (0 : Nat) = 2 by decide)⟩
  | 24 => exact ⟨fun h => absurd h (show ¬ (0 : Nat) = 1 by decide), fun h => absurd h (show ¬ (0 : Nat) = 2 by decide)⟩
  | 25 => exact ⟨fun _ => ⟨Nat.le_of_ble_eq_true rfl, fun x => rfl⟩, fun h => absurd h (show ¬ (1 : Nat) = 2 by decide)⟩
  | _ + 26 => exact ⟨fun h => absurd h (show ¬ (0 : Nat) = 1 by decide), fun h => absurd h (show ¬ (0 : Nat) = 2 by decide)⟩
theorem wM_gall : ∀ f ∈ wM_cs, wM_gd f := List.forall_mem_cons.mpr ⟨wM_g0, List.forall_mem_cons.mpr ⟨wM_ga _, List.forall_mem_cons.mpr ⟨wM_ga _, List.forall_mem_cons.mpr ⟨wM_ga _, List.forall_mem_cons.mpr ⟨wM_ga _, List.forall_mem_cons.mpr ⟨wM_ga _, List.forall_mem_cons.mpr ⟨wM_ga _, List.forall_mem_cons.mpr ⟨wM_ga _, List.forall_mem_cons.mpr ⟨wM_ga _, List.forall_mem_cons.mpr ⟨wM_ga _, List.forall_mem_cons.mpr ⟨wM_ga _, List.forall_mem_cons.mpr ⟨wM_ga _, List.forall_mem_cons.mpr ⟨wM_ga _, List.forall_mem_cons.mpr ⟨wM_ga _, List.forall_mem_cons.mpr ⟨wM_ga _, List.forall_mem_cons.mpr ⟨wM_ga _, List.forall_mem_cons.mpr ⟨wM_ga _, List.forall_mem_cons.mpr ⟨wM_ga _, List.forall_mem_cons.mpr ⟨wM_ga _, fun _ h => absurd h List.not_mem_nil⟩⟩⟩⟩⟩⟩⟩⟩⟩⟩⟩⟩⟩⟩⟩⟩⟩⟩⟩
theorem wM_wf : qw_wf wM := ⟨fun k => (qw_nth_all (wM_ga _) k wM_gall).1, fun k => (qw_nth_all (wM_ga _) k wM_gall).2⟩
theorem qc_cok : ∀ ci q, qc_cl[ci]? = some q → (∃ ty0 : Nat → FieldType, ∀ k, k < q.2.2 → parseFieldDescriptor (q.2.1 k).2.2.1 = some (ty0 k)) ∧ (∀ a, a < q.2.2 → ∀ b, b < q.2.2 → a ≠ b → (q.2.1 a).2.1 ≠ (q.2.1 b).2.1) ∧ (∀ x ∈ u_ws q.1 q.2.1 q.2.2, x ∈ qw_tw) ∧
  ∀ j, (qc_kd ci j = 1 → j < q.2.2 ∧ parseFieldDescriptor (q.2.1 j).2.2.1 = some .int ∧ (q.2.1 j).2.2.2 = false) ∧ (qc_kd ci j = 2 → j < q.2.2 ∧ parseFieldDescriptor (q.2.1 j).2.2.1 = some .long ∧ (q.2.1 j).2.2.2 = false) := by
  intro ci q h
  match ci with
  | 0 =>
    cases h
    refine ⟨⟨qu_0, qu_0_ok⟩, qn_0_ok, qv_0_ok, fun j => ?_⟩
    match j with
    | 0 => exact ⟨fun h => absurd h (show ¬ (0 : Nat) = 1 by decide), fun h => absurd h (show ¬ (0 : Nat) = 2 by decide)⟩
    | 1 => exact ⟨fun h => absurd h (show ¬ (0 : Nat) = 1 by decide), fun h => absurd h (show ¬ (0 : Nat) = 2 by decide)⟩
    | 2 => exact ⟨fun h => absurd h (show ¬ (2 : Nat) = 1 by decide), fun _ => ⟨by decide, by decide +kernel, rfl⟩⟩
    | 3 => exact ⟨fun h => absurd h (show ¬ (2 : Nat) = 1 by decide), fun _ => ⟨by decide, by decide +kernel, rfl⟩⟩
    | _ + 4 => exact ⟨fun h => absurd h (show ¬ (0 : Nat) = 1 by decide), fun h => absurd h (show ¬ (0 : Nat) = 2 by decide)⟩
  | 1 =>
    cases h
    refine ⟨⟨qu_1, qu_1_ok⟩, qn_1_ok, qv_1_ok, fun j => ?_⟩
    match j with
    | 0 => exact ⟨fun h => absurd h (show ¬ (0 : Nat) = 1 by decide), fun h => absurd h (show ¬ (0 : Nat) = 2 by decide)⟩
    | 1 => exact ⟨fun h => absurd h (show ¬ (0 : Nat) = 1 by decide), fun h => absurd h (show ¬ (0 : Nat) = 2 by decide)⟩
    | 2 => exact ⟨fun _ => ⟨by decide, by decide +kernel, rfl⟩, fun h => absurd h (show ¬ (1 : Nat) = 2 by decide)⟩
    | 3 => exact ⟨fun _ => ⟨by decide, by decide +kernel, rfl⟩, fun h => absurd h (show ¬ (1 : Nat) = 2 by decide)⟩
    | _ + 4 => exact ⟨fun h => absurd h (show ¬ (0 : Nat) = 1 by decide), fun h => absurd h (show ¬ (0 : Nat) = 2 by decide)⟩
  | 2 =>
    cases h
    refine ⟨⟨qu_2, qu_2_ok⟩, qn_2_ok, qv_2_ok, fun j => ?_⟩
    match j with
    | 0 => exact ⟨fun _ => ⟨by decide, by decide +kernel, rfl⟩, fun h => absurd h (show ¬ (1 : Nat) = 2 by decide)⟩
    | 1 => exact ⟨fun _ => ⟨by decide, by decide +kernel, rfl⟩, fun h => absurd h (show ¬ (1 : Nat) = 2 by decide)⟩
    | 2 => exact ⟨fun _ => ⟨by decide, by decide +kernel, rfl⟩, fun h => absurd h (show ¬ (1 : Nat) = 2 by decide)⟩
    | _ + 3 => exact ⟨fun h => absurd h (show ¬ (0 : Nat) = 1 by decide), fun h => absurd h (show ¬ (0 : Nat) = 2 by decide)⟩
  | 3 =>
    cases h
    refine ⟨⟨qu_3, qu_3_ok⟩, qn_3_ok, qv_3_ok, fun j => ?_⟩
    match j with
    | 0 => exact ⟨fun h => absurd h (show ¬ (0 : Nat) = 1 by decide), fun h => absurd h (show ¬ (0 : Nat) = 2 by decide)⟩
    | 1 => exact ⟨fun _ => ⟨by decide, by decide +kernel, rfl⟩, fun h => absurd h (show ¬ (1 : Nat) = 2 by decide)⟩
    | 2 => exact ⟨fun _ => ⟨by decide, by decide +kernel, rfl⟩, fun h => absurd h (show ¬ (1 : Nat) = 2 by decide)⟩
    | _ + 3 => exact ⟨fun h => absurd h (show ¬ (0 : Nat) = 1 by decide), fun h => absurd h (show ¬ (0 : Nat) = 2 by decide)⟩
  | 4 =>
    cases h
    refine ⟨⟨qu_4, qu_4_ok⟩, qn_4_ok, qv_4_ok, fun j => ?_⟩
    match j with
    | 0 => exact ⟨fun h => absurd h (show ¬ (0 : Nat) = 1 by decide), fun h => absurd h (show ¬ (0 : Nat) = 2 by decide)⟩
    | 1 => exact ⟨fun h => absurd h (show ¬ (0 : Nat) = 1 by decide), fun h => absurd h (show ¬ (0 : Nat) = 2 by decide)⟩
    | 2 => exact ⟨fun h => absurd h (show ¬ (0 : Nat) = 1 by decide), fun h => absurd h (show ¬ (0 : Nat) = 2 by decide)⟩
    | 3 => exact ⟨fun h => absurd h (show ¬ (0 : Nat) = 1 by decide), fun h => absurd h (show ¬ (0 : Nat) = 2 by decide)⟩
    | 4 => exact ⟨fun h => absurd h (show ¬ (0 : Nat) = 1 by decide), fun h => absurd h (show ¬ (0 : Nat) = 2 by decide)⟩
    | 5 => exact ⟨fun h => absurd h (show ¬ (0 : Nat) = 1 by decide), fun h => absurd h (show ¬ (0 : Nat) = 2 by decide)⟩
    | _ + 6 => exact ⟨fun h => absurd h (show ¬ (0 : Nat) = 1 by decide), fun h => absurd h (show ¬ (0 : Nat) = 2 by decide)⟩
  | 5 =>
    cases h
    refine ⟨⟨qu_5, qu_5_ok⟩, qn_5_ok, qv_5_ok, fun j => ?_⟩
    match j with
    | 0 => exact ⟨fun h => absurd h (show ¬ (0 : Nat) = 1 by decide), fun h => absurd h (show ¬ (0 : Nat) = 2 by decide)⟩
    | 1 => exact ⟨fun _ => ⟨by decide, by decide +kernel, rfl⟩, fun h => absurd h (show ¬ (1 : Nat) = 2 by decide)⟩
    | _ + 2 => exact ⟨fun h => absurd h (show ¬ (0 : Nat) = 1 by decide), fun h => absurd h (show ¬ (0 : Nat) = 2 by decide)⟩
  | 6 =>
    cases h
    refine ⟨⟨qu_6, qu_6_ok⟩, qn_6_ok, qv_6_ok, fun j => ?_⟩
    match j with
    | 0 => exact ⟨fun h => absurd h (show ¬ (0 : Nat) = 1 by decide), fun h => absurd h (show ¬ (0 : Nat) = 2 by decide)⟩
    | 1 => exact ⟨fun _ => ⟨by decide, by decide +kernel, rfl⟩, fun h => absurd h (show ¬ (1 : Nat) = 2 by decide)⟩
    | 2 => exact ⟨fun _ => ⟨by decide, by decide +kernel, rfl⟩, fun h => absurd h (show ¬ (1 : Nat) = 2 by decide)⟩
    | _ + 3 => exact ⟨fun h => absurd h (show ¬ (0 : Nat) = 1 by decide), fun h => absurd h (show ¬ (0 : Nat) = 2 by decide)⟩
  | 7 =>
    cases h
    refine ⟨⟨qu_7, qu_7_ok⟩, qn_7_ok, qv_7_ok, fun j => ?_⟩
    match j with
    | 0 => exact ⟨fun h => absurd h (show ¬ (0 : Nat) = 1 by decide), fun h => absurd h (show ¬ (0 : Nat) = 2 by decide)⟩
    | 1 => exact ⟨fun h => absurd h (show ¬ (0 : Nat) = 1 by decide), fun h => absurd h (show ¬ (0 : Nat) = 2 by decide)⟩
    | 2 => exact ⟨fun h => absurd h (show ¬ (0 : Nat) = 1 by decide), fun h => absurd h (show ¬ (0 : Nat) = 2 by decide)⟩
    | 3 => exact ⟨fun h => absurd h (show ¬ (0 : Nat) = 1 by decide), fun h => absurd h (show ¬ (0 : Nat) = 2 by decide)⟩
    | 4 => exact ⟨fun h => absurd h (show ¬ (0 : Nat) = 1 by decide), fun h => absurd h (show ¬ (0 : Nat) = 2 by decide)⟩
    | 5 => exact ⟨fun _ => ⟨by decide, by decide +kernel, rfl⟩, fun h => absurd h (show ¬ (1 : Nat) = 2 by decide)⟩
    | _ + 6 => exact ⟨fun h => absurd h (show ¬ (0 : Nat) = 1 by decide), fun h => absurd h (show ¬ (0 : Nat) = 2 by decide)⟩
  | 8 =>
    cases h
    refine ⟨⟨qu_8, qu_8_ok⟩, qn_8_ok, qv_8_ok, fun j => ?_⟩
    match j with
    | 0 => exact ⟨fun h => absurd h (show ¬ (0 : Nat) = 1 by decide), fun h => absurd h (show ¬ (0 : Nat) = 2 by decide)⟩
    | 1 => exact ⟨fun h => absurd h (show ¬ (0 : Nat) = 1 by decide), fun h => absurd h (show ¬ (0 : Nat) = 2 by decide)⟩
    | 2 => exact ⟨fun h => absurd h (show ¬ (0 : Nat) = 1 by decide), fun h => absurd h (show ¬ (0 : Nat) = 2 by decide)⟩
    | 3 => exact ⟨fun h => absurd h (show ¬ (0 : Nat) = 1 by decide), fun h => absurd h (show ¬ (0 : Nat) = 2 by decide)⟩
    | 4 => exact ⟨fun h => absurd h (show ¬ (0 : Nat) = 1 by decide), fun h => absurd h (show ¬ (0 : Nat) = 2 by decide)⟩
    | 5 => exact ⟨fun h => absurd h (show ¬ (0 : Nat) = 1 by decide), fun h => absurd h (show ¬ (0 : Nat) = 2 by decide)⟩
    | 6 => exact ⟨fun h => absurd h (show ¬ (0 : Nat) = 1 by decide), fun h => absurd h (show ¬ (0 : Nat) = 2 by decide)⟩
    | 7 => exact ⟨fun h => absurd h (show ¬ (0 : Nat) = 1 by decide), fun h => absurd h (show ¬ (0 : Nat) = 2 by decide)⟩
    | 8 => exact ⟨fun _ => ⟨by decide, by decide +kernel, rfl⟩, fun h => absurd h (show ¬ (1 : Nat) = 2 by decide)⟩
    | _ + 9 => exact ⟨fun h => absurd h (show ¬ (0 : Nat) = 1 by decide), fun h => absurd h (show ¬ (0 : Nat) = 2 by decide)⟩
  | 9 =>
    cases h
    refine ⟨⟨qu_9, qu_9_ok⟩, qn_9_ok, qv_9_ok, fun j => ?_⟩
    match j with
    | 0 => exact ⟨fun h => absurd h (show ¬ (0 : Nat) = 1 by decide), fun h => absurd h (show ¬ (0 : Nat) = 2 by decide)⟩
    | 1 => exact ⟨fun h => absurd h (show ¬ (0 : Nat) = 1 by decide), fun h => absurd h (show ¬ (0 : Nat) = 2 by decide)⟩
    | 2 => exact ⟨fun h => absurd h (show ¬ (0 : Nat) = 1 by decide), fun h => absurd h (show ¬ (0 : Nat) = 2 by decide)⟩
    | 3 => exact ⟨fun h => absurd h (show ¬ (0 : Nat) = 1 by decide), fun h => absurd h (show ¬ (0 : Nat) = 2 by decide)⟩
    | 4 => exact ⟨fun h => absurd h (show ¬ (0 : Nat) = 1 by decide), fun h => absurd h (show ¬ (0 : Nat) = 2 by decide)⟩
    | 5 => exact ⟨fun _ => ⟨by decide, by decide +kernel, rfl⟩, fun h => absurd h (show ¬ (1 : Nat) = 2 by decide)⟩
    | 6 => exact ⟨fun _ => ⟨by decide, by decide +kernel, rfl⟩, fun h => absurd h (show ¬ (1 : Nat) = 2 by decide)⟩
    | _ + 7 => exact ⟨fun h => absurd h (show ¬ (0 : Nat) = 1 by decide), fun h => absurd h (show ¬ (0 : Nat) = 2 by decide)⟩
  | 10 =>
    cases h
    refine ⟨⟨qu_10, qu_10_ok⟩, qn_10_ok, qv_10_ok, fun j => ?_⟩
    match j with
    | 0 => exact ⟨fun h => absurd h (show ¬ (0 : Nat) = 1 by decide), fun h => absurd h (show ¬ (0 : Nat) = 2 by decide)⟩
    | 1 => exact ⟨fun h => absurd h (show ¬ (0 : Nat) = 1 by decide), fun h => absurd h (show ¬ (0 : Nat) = 2 by decide)⟩
    | 2 => exact ⟨fun h => absurd h (show ¬ (0 : Nat) = 1 by decide), fun h => absurd h (show ¬ (0 : Nat) = 2 by decide)⟩
    | 3 => exact ⟨fun h => absurd h (show ¬ (0 : Nat) = 1 by decide), fun h => absurd h (show ¬ (0 : Nat) = 2 by decide)⟩
    | _ + 4 => exact ⟨fun h => absurd h (show ¬ (0 : Nat) = 1 by decide), fun h => absurd h (show ¬ (0 : Nat) = 2 by decide)⟩
  | 11 =>
    cases h
    refine ⟨⟨qu_11, qu_11_ok⟩, qn_11_ok, qv_11_ok, fun j => ?_⟩
    match j with
    | 0 => exact ⟨fun h => absurd h (show ¬ (0 : Nat) = 1 by decide), fun h => absurd h (show ¬ (0 : Nat) = 2 by decide)⟩
    | 1 => exact ⟨fun h => absurd h (show ¬ (0 : Nat) = 1 by decide), fun h => absurd h (show ¬ (0 : Nat) = 2 by decide)⟩
    | 2 => exact ⟨fun h => absurd h (show ¬ (0 : Nat) = 1 by decide), fun h => absurd h (show ¬ (0 : Nat) = 2 by decide)⟩
    | 3 => exact ⟨fun h => absurd h (show ¬ (0 : Nat) = 1 by decide), fun h => absurd h (show ¬ (0 : Nat) = 2 by decide)⟩
    | 4 => exact ⟨fun h => absurd h (show ¬ (0 : Nat) = 1 by decide), fun h => absurd h (show ¬ (0 : Nat) = 2 by decide)⟩
    | 5 => exact ⟨fun h => absurd h (show ¬ (0 : Nat) = 1 by decide), fun h => absurd h (show ¬ (0 : Nat) = 2 by decide)⟩
    | 6 => exact ⟨fun h => absurd h (show ¬ (0 : Nat) = 1 by decide), fun h => absurd h (show ¬ (0 : Nat) = 2 by decide)⟩
    | 7 => exact ⟨fun h => absurd h (show ¬ (0 : Nat) = 1 by decide), fun h => absurd h (show ¬ (0 : Nat) = 2 by decide)⟩
    | 8 => exact ⟨fun _ => ⟨by decide, by decide +kernel, rfl⟩, fun h => absurd h (show ¬ (1 : Nat) = 2 by decide)⟩
    | _ + 9 => exact ⟨fun h => absurd h (show ¬ (0 : Nat) = 1 by decide), fun h => absurd h (show ¬ (0 : Nat) = 2 by decide)⟩
  | 12 =>
    cases h
    refine ⟨⟨qu_12, qu_12_ok⟩, qn_12_ok, qv_12_ok, fun j => ?_⟩
    match j with
    | 0 => exact ⟨fun h => absurd h (show ¬ (0 : Nat) = 1 by decide), fun h => absurd h (show ¬ (0 : Nat) = 2 by decide)⟩
    | 1 => exact ⟨fun h => absurd h (show ¬ (0 : Nat) = 1 by decide), fun h => absurd h (show ¬ (0 : Nat) = 2 by decide)⟩
    | 2 => exact ⟨fun h => absurd h (show ¬ (0 : Nat) = 1 by decide), fun h => absurd h (show ¬ (0 : Nat) = 2 by decide)⟩
    | 3 => exact ⟨fun h => absurd h (show ¬ (0 : Nat) = 1 by decide), fun h => absurd h (show ¬ (0 : Nat) = 2 by decide)⟩
    | 4 => exact ⟨fun _ => ⟨by decide, by decide +kernel, rfl⟩, fun h => absurd h (show ¬ (1 : Nat) = 2 by decide)⟩
    | 5 => exact ⟨fun h => absurd h (show ¬ (0 : Nat) = 1 by decide), fun h => absurd h (show ¬ (0 : Nat) = 2 by decide)⟩
    | 6 => exact ⟨fun h => absurd h (show ¬ (0 : Nat) = 1 by decide), fun h => absurd h (show ¬ (0 : Nat) = 2 by decide)⟩
    | 7 => exact ⟨fun _ => ⟨by decide, by decide +kernel, rfl⟩, fun h => absurd h (show ¬ (1 : Nat) = 2 by decide)⟩
    | 8 => exact ⟨fun h => absurd h (show ¬ (0 : Nat) = 1 by decide), fun h => absurd h (show ¬ (0 : Nat) = 2 by decide)⟩
    | 9 => exact ⟨fun h => absurd h (show ¬ (0 : Nat) = 1 by decide), fun h => absurd h (show ¬ (0 : Nat) = 2 by decide)⟩
    | 10 => exact ⟨fun h => absurd h (show ¬ (0 : Nat) = 1 by decide), fun h => absurd h (show ¬ (0 : Nat) = 2 by decide)⟩
    | 11 => exact ⟨fun h => absurd h (show ¬ (0 : Nat) = 1 by decide), fun h => absurd h (show ¬ (0 : Nat) = 2 by decide)⟩
    | 12 => exact ⟨fun h => absurd h (show ¬ (0 : Nat) = 1 by decide), fun h => absurd h (show ¬ (0 : Nat) = 2 by decide)⟩
    | 13 => exact ⟨fun _ => ⟨by decide, by decide +kernel, rfl⟩, fun h => absurd h (show ¬ (1 : Nat) = 2 by decide)⟩
    | 14 => exact ⟨fun _ => ⟨by decide, by decide +kernel, rfl⟩, fun h => absurd h (show ¬ (1 : Nat) = 2 by decide)⟩
    | 15 => exact ⟨fun h => absurd h (show ¬ (0 : Nat) = 1 by decide), fun h => absurd h (show ¬ (0 : Nat) = 2 by decide)⟩
    | 16 => exact ⟨fun h => absurd h (show ¬ (0 : Nat) = 1 by decide), fun h => absurd h (show ¬ (0 : Nat) = 2 by decide)⟩
    | 17 => exact ⟨fun h => absurd h (show ¬ (0 : Nat) = 1 by decide), fun h => absurd h (show ¬ (0 : Nat) = 2 by decide)⟩
    | 18 => exact ⟨fun h => absurd h (show ¬ (0 : Nat) = 1 by decide), fun h => absurd h (show ¬ (0 : Nat) = 2 by decide)⟩
    | 19 => exact ⟨fun h => absurd h (show ¬ (0 : Nat) = 1 by decide), fun h => absurd h (show ¬ (0 : Nat) = 2 by decide)⟩
    | 20 => exact ⟨fun _ => ⟨by decide, by decide +kernel, rfl⟩, fun h => absurd h (show ¬ (1 : Nat) = 2 by decide)⟩
    | 21 => exact ⟨fun _ => ⟨by decide, by decide +kernel, rfl⟩, fun h => absurd h (show ¬ (1 : Nat) = 2 by decide)⟩
    | 22 => exact ⟨fun _ => ⟨by decide, by decide +kernel, rfl⟩, fun h => absurd h (show ¬ (1 : Nat) = 2 by decide)⟩
    | 23 => exact ⟨fun h => absurd h (show ¬ (0 : Nat) = 1 by decide), fun h => absurd h (show ¬ (0 : Nat) = 2 by decide)⟩
    | 24 => exact ⟨fun h => absurd h (show ¬ (0 : Nat) = 1 by decide), fun h => absurd h (show ¬ (0 : Nat) = 2 by decide)⟩
    | 25 => exact ⟨fun _ => ⟨by decide, by decide +kernel, rfl⟩, fun h => absurd h (show ¬ (1 : Nat) = 2 by decide)⟩
    | _ + 26 => exact ⟨fun h => absurd h (show ¬ (0 : Nat) = 1 by decide), fun h => absurd h (show ¬ (0 : Nat) = 2 by decide)⟩
  | _ + 13 => cases h
theorem wC_cok : qw_cok qw_tw wC := qc_cok
theorem wM_cok : qw_cok qw_tw wM := qc_cok
def qk_0 : qw_K := ("ShadowTheatre$Chance", [(12, 0, 1), (18, 0, 3), (22, 0, 0), (36, 0, 2), (55, 7, 0), (61, 7, 1), (80, 7, 4), (106, 8, 7), (119, 9, 5)], [(26, none, my_J9_min), (32, some 0, my_X0_looseSteps), (39, none, my_J6_bitCount), (44, none, my_X0_power), (48, some 0, my_X0_waysShown), (52, some 0, my_X0_lowerTerms), (64, some 1, my_X1_figureOf), (67, some 9, my_X9_has), (73, some 7, my_X7_open), (76, some 7, my_X7_doCues), (84, some 7, my_X7_isOut), (87, some 8, my_X8_shine), (93, some 7, my_X7_isShownNow), (99, some 0, my_X0_draw), (102, some 7, my_X7_shownSteps), (110, some 2, my_X2_dark), (116, some 1, my_X1_clear), (123, none, my_X0_next), (126, some 1, my_X1_add)], [(129, 1103515245)], [(97, 2)], [], [], 0, [])
theorem qk_0_1wC : ∀ j q, qw_lk (qw_kf qk_0) j = some q → ∃ c, (qw_cl wC)[q.1]? = some c ∧ q.2 < c.2.2 ∧ (Cond.fieldLink (qw_kn qk_0) j (c.2.1 q.2).1 (c.2.1 q.2).2.1 (c.2.1 q.2).2.2.1 ∈ qw_tw ∨ ∃ host, (qw_kn qk_0, j, (c.2.1 q.2).1, (c.2.1 q.2).2.1, (c.2.1 q.2).2.2.1, host) ∈ qw_nst wC) :=
  qw_all (List.forall_mem_cons.mpr ⟨⟨_, rfl, by decide, Or.inl tz_365⟩, List.forall_mem_cons.mpr ⟨⟨_, rfl, by decide, Or.inl tz_368⟩, List.forall_mem_cons.mpr ⟨⟨_, rfl, by decide, Or.inl tz_364⟩, List.forall_mem_cons.mpr ⟨⟨_, rfl, by decide, Or.inl tz_366⟩, List.forall_mem_cons.mpr ⟨⟨_, rfl, by decide, Or.inr ⟨_, List.mem_of_getElem? (i := 29) rfl⟩⟩, List.forall_mem_cons.mpr ⟨⟨_, rfl, by decide, Or.inr ⟨_, List.mem_of_getElem? (i := 32) rfl⟩⟩, List.forall_mem_cons.mpr ⟨⟨_, rfl, by decide, Or.inr ⟨_, List.mem_of_getElem? (i := 40) rfl⟩⟩, List.forall_mem_cons.mpr ⟨⟨_, rfl, by decide, Or.inr ⟨_, List.mem_of_getElem? (i := 26) rfl⟩⟩, List.forall_mem_cons.mpr ⟨⟨_, rfl, by decide, Or.inr ⟨_, List.mem_of_getElem? (i := 12) rfl⟩⟩, fun _ h => absurd h List.not_mem_nil⟩⟩⟩⟩⟩⟩⟩⟩⟩)
theorem qk_0_2wC : ∀ j q, qw_lk (qw_kc qk_0) j = some q → qw_yc q.2 ∈ qw_tw ∧ Cond.methodLink (qw_kn qk_0) j (qw_yn q.2) ∈ qw_tw ∧ Cond.initialized (qw_yn q.2).cls ∈ qw_tw ∧ ((qw_yn q.2).cls ≠ "java/lang/invoke/MethodHandle" ∧ (qw_yn q.2).cls ≠ "java/lang/invoke/VarHandle" ∧ (parseMethodDescriptor (qw_yn q.2).desc).map (fun d => d.parameters.length) = some (qw_yp q.2)) ∧
    (q.1 = none → Cond.static (qw_yn q.2) ∈ qw_tw) ∧ (∀ ci, q.1 = some ci → Cond.instanceMethod (qw_yn q.2) ∈ qw_tw ∧ Cond.selects (qw_yn q.2).cls (qw_yn q.2) (qw_yn q.2) ∈ qw_tw ∧ ((ci = 13 ∧ (qw_yn q.2).cls = "java/lang/String") ∨ ∃ c, (qw_cl wC)[ci]? = some c ∧ c.1 = (qw_yn q.2).cls)) :=
  qw_all (List.forall_mem_cons.mpr ⟨⟨tz_498, tz_980, tz_76, by decide +kernel, fun _ => tz_497, fun _ h => (by cases h)⟩, List.forall_mem_cons.mpr ⟨⟨tz_984, tz_981, tz_85, by decide +kernel, fun h => (by cases h), fun ci h => (by cases h; exact ⟨tz_983, tz_16, Or.inr ⟨_, rfl, rfl⟩⟩)⟩, List.forall_mem_cons.mpr ⟨⟨tz_750, tz_987, tz_93, by decide +kernel, fun _ => tz_749, fun _ h => (by cases h)⟩, List.forall_mem_cons.mpr ⟨⟨tz_990, tz_988, tz_85, by decide +kernel, fun _ => tz_989, fun _ h => (by cases h)⟩, List.forall_mem_cons.mpr ⟨⟨tz_994, tz_991, tz_85, by decide +kernel, fun h => (by cases h), fun ci h => (by cases h; exact ⟨tz_993, tz_17, Or.inr ⟨_, rfl, rfl⟩⟩)⟩, List.forall_mem_cons.mpr ⟨⟨tz_1003, tz_1000, tz_85, by decide +kernel, fun h => (by cases h), fun ci h => (by cases h; exact ⟨tz_1002, tz_18, Or.inr ⟨_, rfl, rfl⟩⟩)⟩, List.forall_mem_cons.mpr ⟨⟨tz_620, tz_985, tz_79, by decide +kernel, fun h => (by cases h), fun ci h => (by cases h; exact ⟨tz_618, tz_619, Or.inr ⟨_, rfl, rfl⟩⟩)⟩, List.forall_mem_cons.mpr ⟨⟨tz_607, tz_986, tz_78, by decide +kernel, fun h => (by cases h), fun ci h => (by cases h; exact ⟨tz_605, tz_606, Or.inr ⟨_, rfl, rfl⟩⟩)⟩, List.forall_mem_cons.mpr ⟨⟨tz_919, tz_995, tz_77, by decide +kernel, fun h => (by cases h), fun ci h => (by cases h; exact ⟨tz_917, tz_918, Or.inr ⟨_, rfl, rfl⟩⟩)⟩, List.forall_mem_cons.mpr ⟨⟨tz_688, tz_996, tz_77, by decide +kernel, fun h => (by cases h), fun ci h => (by cases h; exact ⟨tz_686, tz_687, Or.inr ⟨_, rfl, rfl⟩⟩)⟩, List.forall_mem_cons.mpr ⟨⟨tz_699, tz_997, tz_77, by decide +kernel, fun h => (by cases h), fun ci h => (by cases h; exact ⟨tz_697, tz_698, Or.inr ⟨_, rfl, rfl⟩⟩)⟩, List.forall_mem_cons.mpr ⟨⟨tz_704, tz_998, tz_82, by decide +kernel, fun h => (by cases h), fun ci h => (by cases h; exact ⟨tz_702, tz_703, Or.inr ⟨_, rfl, rfl⟩⟩)⟩, List.forall_mem_cons.mpr ⟨⟨tz_786, tz_999, tz_77, by decide +kernel, fun h => (by cases h), fun ci h => (by cases h; exact ⟨tz_784, tz_785, Or.inr ⟨_, rfl, rfl⟩⟩)⟩, List.forall_mem_cons.mpr ⟨⟨tz_1016, tz_1013, tz_85, by decide +kernel, fun h => (by cases h), fun ci h => (by cases h; exact ⟨tz_1015, tz_19, Or.inr ⟨_, rfl, rfl⟩⟩)⟩, List.forall_mem_cons.mpr ⟨⟨tz_782, tz_1029, tz_77, by decide +kernel, fun h => (by cases h), fun ci h => (by cases h; exact ⟨tz_780, tz_781, Or.inr ⟨_, rfl, rfl⟩⟩)⟩, List.forall_mem_cons.mpr ⟨⟨tz_773, tz_1030, tz_81, by decide +kernel, fun h => (by cases h), fun ci h => (by cases h; exact ⟨tz_771, tz_772, Or.inr ⟨_, rfl, rfl⟩⟩)⟩, List.forall_mem_cons.mpr ⟨⟨tz_1020, tz_1017, tz_79, by decide +kernel, fun h => (by cases h), fun ci h => (by cases h; exact ⟨tz_1018, tz_1019, Or.inr ⟨_, rfl, rfl⟩⟩)⟩, List.forall_mem_cons.mpr ⟨⟨tz_1023, tz_1021, tz_85, by decide +kernel, fun _ => tz_1022, fun _ h => (by cases h)⟩, List.forall_mem_cons.mpr ⟨⟨tz_1028, tz_1025, tz_79, by decide +kernel, fun h => (by cases h), fun ci h => (by cases h; exact ⟨tz_1026, tz_1027, Or.inr ⟨_, rfl, rfl⟩⟩)⟩, fun _ h => absurd h List.not_mem_nil⟩⟩⟩⟩⟩⟩⟩⟩⟩⟩⟩⟩⟩⟩⟩⟩⟩⟩⟩)
theorem qk_0_wC : qw_ok qw_tw wC qk_0 := ⟨qw_tw_good, wC_wf, wC_cok, wC_tok, qk_0_1wC, qk_0_2wC, qw_all (List.forall_mem_cons.mpr ⟨tz_1024, fun _ h => absurd h List.not_mem_nil⟩), qw_all (List.forall_mem_cons.mpr ⟨tz_1004, fun _ h => absurd h List.not_mem_nil⟩), fun j q z h => (by cases h), fun j h => (qw_ka0 h).elim, qw_all (fun _ h => absurd h List.not_mem_nil), qw_all (fun _ h => absurd h List.not_mem_nil)⟩
def qk_1 : qw_K := ("ShadowTheatre$Cues", [(9, 1, 0), (15, 1, 1), (18, 1, 3), (22, 5, 1), (35, 1, 2)], [(27, some 5, my_X5_item), (31, some 1, my_X1_takes), (38, some 13, my_J0_indexOf), (43, some 1, my_X1_figureOf)], [], [], [(36, 1)], [], 0, [])
theorem qk_1_1wC : ∀ j q, qw_lk (qw_kf qk_1) j = some q → ∃ c, (qw_cl wC)[q.1]? = some c ∧ q.2 < c.2.2 ∧ (Cond.fieldLink (qw_kn qk_1) j (c.2.1 q.2).1 (c.2.1 q.2).2.1 (c.2.1 q.2).2.2.1 ∈ qw_tw ∨ ∃ host, (qw_kn qk_1, j, (c.2.1 q.2).1, (c.2.1 q.2).2.1, (c.2.1 q.2).2.2.1, host) ∈ qw_nst wC) :=
  qw_all (List.forall_mem_cons.mpr ⟨⟨_, rfl, by decide, Or.inl tz_177⟩, List.forall_mem_cons.mpr ⟨⟨_, rfl, by decide, Or.inl tz_178⟩, List.forall_mem_cons.mpr ⟨⟨_, rfl, by decide, Or.inl tz_180⟩, List.forall_mem_cons.mpr ⟨⟨_, rfl, by decide, Or.inr ⟨_, List.mem_of_getElem? (i := 1) rfl⟩⟩, List.forall_mem_cons.mpr ⟨⟨_, rfl, by decide, Or.inl tz_179⟩, fun _ h => absurd h List.not_mem_nil⟩⟩⟩⟩⟩)
theorem qk_1_2wC : ∀ j q, qw_lk (qw_kc qk_1) j = some q → qw_yc q.2 ∈ qw_tw ∧ Cond.methodLink (qw_kn qk_1) j (qw_yn q.2) ∈ qw_tw ∧ Cond.initialized (qw_yn q.2).cls ∈ qw_tw ∧ ((qw_yn q.2).cls ≠ "java/lang/invoke/MethodHandle" ∧ (qw_yn q.2).cls ≠ "java/lang/invoke/VarHandle" ∧ (parseMethodDescriptor (qw_yn q.2).desc).map (fun d => d.parameters.length) = some (qw_yp q.2)) ∧
    (q.1 = none → Cond.static (qw_yn q.2) ∈ qw_tw) ∧ (∀ ci, q.1 = some ci → Cond.instanceMethod (qw_yn q.2) ∈ qw_tw ∧ Cond.selects (qw_yn q.2).cls (qw_yn q.2) (qw_yn q.2) ∈ qw_tw ∧ ((ci = 13 ∧ (qw_yn q.2).cls = "java/lang/String") ∨ ∃ c, (qw_cl wC)[ci]? = some c ∧ c.1 = (qw_yn q.2).cls)) :=
  qw_all (List.forall_mem_cons.mpr ⟨⟨tz_461, tz_559, tz_75, by decide +kernel, fun h => (by cases h), fun ci h => (by cases h; exact ⟨tz_459, tz_460, Or.inr ⟨_, rfl, rfl⟩⟩)⟩, List.forall_mem_cons.mpr ⟨⟨tz_563, tz_560, tz_79, by decide +kernel, fun h => (by cases h), fun ci h => (by cases h; exact ⟨tz_562, tz_4, Or.inr ⟨_, rfl, rfl⟩⟩)⟩, List.forall_mem_cons.mpr ⟨⟨tz_470, tz_565, tz_88, by decide +kernel, fun h => (by cases h), fun ci h => (by cases h; exact ⟨tz_468, tz_469, Or.inl ⟨rfl, rfl⟩⟩)⟩, List.forall_mem_cons.mpr ⟨⟨tz_620, tz_915, tz_79, by decide +kernel, fun h => (by cases h), fun ci h => (by cases h; exact ⟨tz_618, tz_619, Or.inr ⟨_, rfl, rfl⟩⟩)⟩, fun _ h => absurd h List.not_mem_nil⟩⟩⟩⟩)
theorem qk_1_wC : qw_ok qw_tw wC qk_1 := ⟨qw_tw_good, wC_wf, wC_cok, wC_tok, qk_1_1wC, qk_1_2wC, qw_all (fun _ h => absurd h List.not_mem_nil), qw_all (fun _ h => absurd h List.not_mem_nil), fun j q z h => (by cases h), fun j h => (qw_ka0 h).elim, qw_all (List.forall_mem_cons.mpr ⟨⟨"lrfb", List.mem_of_getElem? (i := 1) rfl⟩, fun _ h => absurd h List.not_mem_nil⟩), qw_all (fun _ h => absurd h List.not_mem_nil)⟩
def qk_2 : qw_K := ("ShadowTheatre$Glow", [(9, 2, 0), (15, 2, 1), (18, 2, 2)], [(21, none, my_J6_bitCount)], [], [], [], [], 0, [])
theorem qk_2_1wC : ∀ j q, qw_lk (qw_kf qk_2) j = some q → ∃ c, (qw_cl wC)[q.1]? = some c ∧ q.2 < c.2.2 ∧ (Cond.fieldLink (qw_kn qk_2) j (c.2.1 q.2).1 (c.2.1 q.2).2.1 (c.2.1 q.2).2.2.1 ∈ qw_tw ∨ ∃ host, (qw_kn qk_2, j, (c.2.1 q.2).1, (c.2.1 q.2).2.1, (c.2.1 q.2).2.2.1, host) ∈ qw_nst wC) :=
  qw_all (List.forall_mem_cons.mpr ⟨⟨_, rfl, by decide, Or.inl tz_203⟩, List.forall_mem_cons.mpr ⟨⟨_, rfl, by decide, Or.inl tz_205⟩, List.forall_mem_cons.mpr ⟨⟨_, rfl, by decide, Or.inl tz_207⟩, fun _ h => absurd h List.not_mem_nil⟩⟩⟩)
theorem qk_2_2wC : ∀ j q, qw_lk (qw_kc qk_2) j = some q → qw_yc q.2 ∈ qw_tw ∧ Cond.methodLink (qw_kn qk_2) j (qw_yn q.2) ∈ qw_tw ∧ Cond.initialized (qw_yn q.2).cls ∈ qw_tw ∧ ((qw_yn q.2).cls ≠ "java/lang/invoke/MethodHandle" ∧ (qw_yn q.2).cls ≠ "java/lang/invoke/VarHandle" ∧ (parseMethodDescriptor (qw_yn q.2).desc).map (fun d => d.parameters.length) = some (qw_yp q.2)) ∧
    (q.1 = none → Cond.static (qw_yn q.2) ∈ qw_tw) ∧ (∀ ci, q.1 = some ci → Cond.instanceMethod (qw_yn q.2) ∈ qw_tw ∧ Cond.selects (qw_yn q.2).cls (qw_yn q.2) (qw_yn q.2) ∈ qw_tw ∧ ((ci = 13 ∧ (qw_yn q.2).cls = "java/lang/String") ∨ ∃ c, (qw_cl wC)[ci]? = some c ∧ c.1 = (qw_yn q.2).cls)) :=
  qw_all (List.forall_mem_cons.mpr ⟨⟨tz_750, tz_774, tz_93, by decide +kernel, fun _ => tz_749, fun _ h => (by cases h)⟩, fun _ h => absurd h List.not_mem_nil⟩)
theorem qk_2_wC : qw_ok qw_tw wC qk_2 := ⟨qw_tw_good, wC_wf, wC_cok, wC_tok, qk_2_1wC, qk_2_2wC, qw_all (fun _ h => absurd h List.not_mem_nil), qw_all (fun _ h => absurd h List.not_mem_nil), fun j q z h => (by cases h), fun j h => (qw_ka0 h).elim, qw_all (fun _ h => absurd h List.not_mem_nil), qw_all (fun _ h => absurd h List.not_mem_nil)⟩
def qk_3 : qw_K := ("ShadowTheatre$Picture", [(12, 3, 0), (18, 3, 2), (26, 3, 1), (29, 5, 1), (45, 2, 0), (48, 2, 1), (51, 2, 2)], [(22, some 2, my_X2_fill), (34, some 5, my_X5_item), (38, some 2, my_X2_set), (42, some 2, my_X2_lightOf), (54, none, my_J6_bitCount), (59, some 3, my_X3_falseBy)], [], [], [], [], 0, [])
theorem qk_3_1wC : ∀ j q, qw_lk (qw_kf qk_3) j = some q → ∃ c, (qw_cl wC)[q.1]? = some c ∧ q.2 < c.2.2 ∧ (Cond.fieldLink (qw_kn qk_3) j (c.2.1 q.2).1 (c.2.1 q.2).2.1 (c.2.1 q.2).2.2.1 ∈ qw_tw ∨ ∃ host, (qw_kn qk_3, j, (c.2.1 q.2).1, (c.2.1 q.2).2.1, (c.2.1 q.2).2.2.1, host) ∈ qw_nst wC) :=
  qw_all (List.forall_mem_cons.mpr ⟨⟨_, rfl, by decide, Or.inl tz_216⟩, List.forall_mem_cons.mpr ⟨⟨_, rfl, by decide, Or.inl tz_219⟩, List.forall_mem_cons.mpr ⟨⟨_, rfl, by decide, Or.inl tz_217⟩, List.forall_mem_cons.mpr ⟨⟨_, rfl, by decide, Or.inr ⟨_, List.mem_of_getElem? (i := 3) rfl⟩⟩, List.forall_mem_cons.mpr ⟨⟨_, rfl, by decide, Or.inr ⟨_, List.mem_of_getElem? (i := 18) rfl⟩⟩, List.forall_mem_cons.mpr ⟨⟨_, rfl, by decide, Or.inr ⟨_, List.mem_of_getElem? (i := 19) rfl⟩⟩, List.forall_mem_cons.mpr ⟨⟨_, rfl, by decide, Or.inr ⟨_, List.mem_of_getElem? (i := 20) rfl⟩⟩, fun _ h => absurd h List.not_mem_nil⟩⟩⟩⟩⟩⟩⟩)
theorem qk_3_2wC : ∀ j q, qw_lk (qw_kc qk_3) j = some q → qw_yc q.2 ∈ qw_tw ∧ Cond.methodLink (qw_kn qk_3) j (qw_yn q.2) ∈ qw_tw ∧ Cond.initialized (qw_yn q.2).cls ∈ qw_tw ∧ ((qw_yn q.2).cls ≠ "java/lang/invoke/MethodHandle" ∧ (qw_yn q.2).cls ≠ "java/lang/invoke/VarHandle" ∧ (parseMethodDescriptor (qw_yn q.2).desc).map (fun d => d.parameters.length) = some (qw_yp q.2)) ∧
    (q.1 = none → Cond.static (qw_yn q.2) ∈ qw_tw) ∧ (∀ ci, q.1 = some ci → Cond.instanceMethod (qw_yn q.2) ∈ qw_tw ∧ Cond.selects (qw_yn q.2).cls (qw_yn q.2) (qw_yn q.2) ∈ qw_tw ∧ ((ci = 13 ∧ (qw_yn q.2).cls = "java/lang/String") ∨ ∃ c, (qw_cl wC)[ci]? = some c ∧ c.1 = (qw_yn q.2).cls)) :=
  qw_all (List.forall_mem_cons.mpr ⟨⟨tz_573, tz_570, tz_81, by decide +kernel, fun h => (by cases h), fun ci h => (by cases h; exact ⟨tz_571, tz_572, Or.inr ⟨_, rfl, rfl⟩⟩)⟩, List.forall_mem_cons.mpr ⟨⟨tz_461, tz_574, tz_75, by decide +kernel, fun h => (by cases h), fun ci h => (by cases h; exact ⟨tz_459, tz_460, Or.inr ⟨_, rfl, rfl⟩⟩)⟩, List.forall_mem_cons.mpr ⟨⟨tz_578, tz_575, tz_81, by decide +kernel, fun h => (by cases h), fun ci h => (by cases h; exact ⟨tz_576, tz_577, Or.inr ⟨_, rfl, rfl⟩⟩)⟩, List.forall_mem_cons.mpr ⟨⟨tz_636, tz_633, tz_81, by decide +kernel, fun h => (by cases h), fun ci h => (by cases h; exact ⟨tz_634, tz_635, Or.inr ⟨_, rfl, rfl⟩⟩)⟩, List.forall_mem_cons.mpr ⟨⟨tz_750, tz_769, tz_93, by decide +kernel, fun _ => tz_749, fun _ h => (by cases h)⟩, List.forall_mem_cons.mpr ⟨⟨tz_768, tz_791, tz_80, by decide +kernel, fun h => (by cases h), fun ci h => (by cases h; exact ⟨tz_766, tz_767, Or.inr ⟨_, rfl, rfl⟩⟩)⟩, fun _ h => absurd h List.not_mem_nil⟩⟩⟩⟩⟩⟩)
theorem qk_3_wC : qw_ok qw_tw wC qk_3 := ⟨qw_tw_good, wC_wf, wC_cok, wC_tok, qk_3_1wC, qk_3_2wC, qw_all (fun _ h => absurd h List.not_mem_nil), qw_all (fun _ h => absurd h List.not_mem_nil), fun j q z h => (by cases h), fun j h => (qw_ka0 h).elim, qw_all (fun _ h => absurd h List.not_mem_nil), qw_all (fun _ h => absurd h List.not_mem_nil)⟩
def qk_4 : qw_K := ("ShadowTheatre$Planner", [(12, 4, 2), (18, 4, 3), (22, 4, 4), (25, 4, 5), (28, 4, 0), (32, 7, 4), (38, 4, 1), (57, 8, 7), (94, 8, 8), (105, 7, 0), (109, 9, 5)], [(39, some 4, my_X4_findEnds), (43, some 7, my_X7_goTo), (47, some 7, my_X7_isOut), (51, some 8, my_X8_shine), (60, some 2, my_X2_become), (64, some 4, my_X4_decide), (68, some 8, my_X8_put), (71, some 8, my_X8_dimBy), (74, some 7, my_X7_falseNow), (78, none, my_J9_min), (84, some 7, my_X7_doCues), (87, some 8, my_X8_depthOf), (91, some 8, my_X8_placeOf), (98, some 7, my_X7_lightUp), (101, some 7, my_X7_isShownNow), (114, some 4, my_X4_isShownAfter), (118, some 8, my_X8_move), (121, some 4, my_X4_isShownWithout)], [], [], [], [], 0, [])
theorem qk_4_1wC : ∀ j q, qw_lk (qw_kf qk_4) j = some q → ∃ c, (qw_cl wC)[q.1]? = some c ∧ q.2 < c.2.2 ∧ (Cond.fieldLink (qw_kn qk_4) j (c.2.1 q.2).1 (c.2.1 q.2).2.1 (c.2.1 q.2).2.2.1 ∈ qw_tw ∨ ∃ host, (qw_kn qk_4, j, (c.2.1 q.2).1, (c.2.1 q.2).2.1, (c.2.1 q.2).2.2.1, host) ∈ qw_nst wC) :=
  qw_all (List.forall_mem_cons.mpr ⟨⟨_, rfl, by decide, Or.inl tz_317⟩, List.forall_mem_cons.mpr ⟨⟨_, rfl, by decide, Or.inl tz_318⟩, List.forall_mem_cons.mpr ⟨⟨_, rfl, by decide, Or.inl tz_319⟩, List.forall_mem_cons.mpr ⟨⟨_, rfl, by decide, Or.inl tz_320⟩, List.forall_mem_cons.mpr ⟨⟨_, rfl, by decide, Or.inl tz_315⟩, List.forall_mem_cons.mpr ⟨⟨_, rfl, by decide, Or.inr ⟨_, List.mem_of_getElem? (i := 38) rfl⟩⟩, List.forall_mem_cons.mpr ⟨⟨_, rfl, by decide, Or.inl tz_316⟩, List.forall_mem_cons.mpr ⟨⟨_, rfl, by decide, Or.inr ⟨_, List.mem_of_getElem? (i := 23) rfl⟩⟩, List.forall_mem_cons.mpr ⟨⟨_, rfl, by decide, Or.inr ⟨_, List.mem_of_getElem? (i := 28) rfl⟩⟩, List.forall_mem_cons.mpr ⟨⟨_, rfl, by decide, Or.inr ⟨_, List.mem_of_getElem? (i := 31) rfl⟩⟩, List.forall_mem_cons.mpr ⟨⟨_, rfl, by decide, Or.inr ⟨_, List.mem_of_getElem? (i := 11) rfl⟩⟩, fun _ h => absurd h List.not_mem_nil⟩⟩⟩⟩⟩⟩⟩⟩⟩⟩⟩)
theorem qk_4_2wC : ∀ j q, qw_lk (qw_kc qk_4) j = some q → qw_yc q.2 ∈ qw_tw ∧ Cond.methodLink (qw_kn qk_4) j (qw_yn q.2) ∈ qw_tw ∧ Cond.initialized (qw_yn q.2).cls ∈ qw_tw ∧ ((qw_yn q.2).cls ≠ "java/lang/invoke/MethodHandle" ∧ (qw_yn q.2).cls ≠ "java/lang/invoke/VarHandle" ∧ (parseMethodDescriptor (qw_yn q.2).desc).map (fun d => d.parameters.length) = some (qw_yp q.2)) ∧
    (q.1 = none → Cond.static (qw_yn q.2) ∈ qw_tw) ∧ (∀ ci, q.1 = some ci → Cond.instanceMethod (qw_yn q.2) ∈ qw_tw ∧ Cond.selects (qw_yn q.2).cls (qw_yn q.2) (qw_yn q.2) ∈ qw_tw ∧ ((ci = 13 ∧ (qw_yn q.2).cls = "java/lang/String") ∨ ∃ c, (qw_cl wC)[ci]? = some c ∧ c.1 = (qw_yn q.2).cls)) :=
  qw_all (List.forall_mem_cons.mpr ⟨⟨tz_826, tz_823, tz_83, by decide +kernel, fun h => (by cases h), fun ci h => (by cases h; exact ⟨tz_825, tz_8, Or.inr ⟨_, rfl, rfl⟩⟩)⟩, List.forall_mem_cons.mpr ⟨⟨tz_730, tz_835, tz_77, by decide +kernel, fun h => (by cases h), fun ci h => (by cases h; exact ⟨tz_728, tz_729, Or.inr ⟨_, rfl, rfl⟩⟩)⟩, List.forall_mem_cons.mpr ⟨⟨tz_699, tz_836, tz_77, by decide +kernel, fun h => (by cases h), fun ci h => (by cases h; exact ⟨tz_697, tz_698, Or.inr ⟨_, rfl, rfl⟩⟩)⟩, List.forall_mem_cons.mpr ⟨⟨tz_704, tz_837, tz_82, by decide +kernel, fun h => (by cases h), fun ci h => (by cases h; exact ⟨tz_702, tz_703, Or.inr ⟨_, rfl, rfl⟩⟩)⟩, List.forall_mem_cons.mpr ⟨⟨tz_841, tz_838, tz_81, by decide +kernel, fun h => (by cases h), fun ci h => (by cases h; exact ⟨tz_839, tz_840, Or.inr ⟨_, rfl, rfl⟩⟩)⟩, List.forall_mem_cons.mpr ⟨⟨tz_845, tz_842, tz_83, by decide +kernel, fun h => (by cases h), fun ci h => (by cases h; exact ⟨tz_844, tz_9, Or.inr ⟨_, rfl, rfl⟩⟩)⟩, List.forall_mem_cons.mpr ⟨⟨tz_831, tz_828, tz_82, by decide +kernel, fun h => (by cases h), fun ci h => (by cases h; exact ⟨tz_829, tz_830, Or.inr ⟨_, rfl, rfl⟩⟩)⟩, List.forall_mem_cons.mpr ⟨⟨tz_849, tz_846, tz_82, by decide +kernel, fun h => (by cases h), fun ci h => (by cases h; exact ⟨tz_847, tz_848, Or.inr ⟨_, rfl, rfl⟩⟩)⟩, List.forall_mem_cons.mpr ⟨⟨tz_764, tz_850, tz_77, by decide +kernel, fun h => (by cases h), fun ci h => (by cases h; exact ⟨tz_762, tz_763, Or.inr ⟨_, rfl, rfl⟩⟩)⟩, List.forall_mem_cons.mpr ⟨⟨tz_498, tz_827, tz_76, by decide +kernel, fun _ => tz_497, fun _ h => (by cases h)⟩, List.forall_mem_cons.mpr ⟨⟨tz_688, tz_832, tz_77, by decide +kernel, fun h => (by cases h), fun ci h => (by cases h; exact ⟨tz_686, tz_687, Or.inr ⟨_, rfl, rfl⟩⟩)⟩, List.forall_mem_cons.mpr ⟨⟨tz_743, tz_833, tz_82, by decide +kernel, fun h => (by cases h), fun ci h => (by cases h; exact ⟨tz_741, tz_742, Or.inr ⟨_, rfl, rfl⟩⟩)⟩, List.forall_mem_cons.mpr ⟨⟨tz_747, tz_834, tz_82, by decide +kernel, fun h => (by cases h), fun ci h => (by cases h; exact ⟨tz_745, tz_746, Or.inr ⟨_, rfl, rfl⟩⟩)⟩, List.forall_mem_cons.mpr ⟨⟨tz_680, tz_871, tz_77, by decide +kernel, fun h => (by cases h), fun ci h => (by cases h; exact ⟨tz_678, tz_679, Or.inr ⟨_, rfl, rfl⟩⟩)⟩, List.forall_mem_cons.mpr ⟨⟨tz_786, tz_872, tz_77, by decide +kernel, fun h => (by cases h), fun ci h => (by cases h; exact ⟨tz_784, tz_785, Or.inr ⟨_, rfl, rfl⟩⟩)⟩, List.forall_mem_cons.mpr ⟨⟨tz_876, tz_873, tz_83, by decide +kernel, fun h => (by cases h), fun ci h => (by cases h; exact ⟨tz_875, tz_10, Or.inr ⟨_, rfl, rfl⟩⟩)⟩, List.forall_mem_cons.mpr ⟨⟨tz_694, tz_877, tz_82, by decide +kernel, fun h => (by cases h), fun ci h => (by cases h; exact ⟨tz_692, tz_693, Or.inr ⟨_, rfl, rfl⟩⟩)⟩, List.forall_mem_cons.mpr ⟨⟨tz_889, tz_886, tz_83, by decide +kernel, fun h => (by cases h), fun ci h => (by cases h; exact ⟨tz_888, tz_11, Or.inr ⟨_, rfl, rfl⟩⟩)⟩, fun _ h => absurd h List.not_mem_nil⟩⟩⟩⟩⟩⟩⟩⟩⟩⟩⟩⟩⟩⟩⟩⟩⟩⟩)
theorem qk_4_wC : qw_ok qw_tw wC qk_4 := ⟨qw_tw_good, wC_wf, wC_cok, wC_tok, qk_4_1wC, qk_4_2wC, qw_all (fun _ h => absurd h List.not_mem_nil), qw_all (fun _ h => absurd h List.not_mem_nil), fun j q z h => (by cases h), fun j h => (qw_ka0 h).elim, qw_all (fun _ h => absurd h List.not_mem_nil), qw_all (fun _ h => absurd h List.not_mem_nil)⟩
def qk_5 : qw_K := ("ShadowTheatre$Row", [(15, 5, 0), (21, 5, 1)], [(9, none, my_J9_max)], [], [], [], [], 0, [])
theorem qk_5_1wC : ∀ j q, qw_lk (qw_kf qk_5) j = some q → ∃ c, (qw_cl wC)[q.1]? = some c ∧ q.2 < c.2.2 ∧ (Cond.fieldLink (qw_kn qk_5) j (c.2.1 q.2).1 (c.2.1 q.2).2.1 (c.2.1 q.2).2.2.1 ∈ qw_tw ∨ ∃ host, (qw_kn qk_5, j, (c.2.1 q.2).1, (c.2.1 q.2).2.1, (c.2.1 q.2).2.2.1, host) ∈ qw_nst wC) :=
  qw_all (List.forall_mem_cons.mpr ⟨⟨_, rfl, by decide, Or.inl tz_112⟩, List.forall_mem_cons.mpr ⟨⟨_, rfl, by decide, Or.inl tz_113⟩, fun _ h => absurd h List.not_mem_nil⟩⟩)
theorem qk_5_2wC : ∀ j q, qw_lk (qw_kc qk_5) j = some q → qw_yc q.2 ∈ qw_tw ∧ Cond.methodLink (qw_kn qk_5) j (qw_yn q.2) ∈ qw_tw ∧ Cond.initialized (qw_yn q.2).cls ∈ qw_tw ∧ ((qw_yn q.2).cls ≠ "java/lang/invoke/MethodHandle" ∧ (qw_yn q.2).cls ≠ "java/lang/invoke/VarHandle" ∧ (parseMethodDescriptor (qw_yn q.2).desc).map (fun d => d.parameters.length) = some (qw_yp q.2)) ∧
    (q.1 = none → Cond.static (qw_yn q.2) ∈ qw_tw) ∧ (∀ ci, q.1 = some ci → Cond.instanceMethod (qw_yn q.2) ∈ qw_tw ∧ Cond.selects (qw_yn q.2).cls (qw_yn q.2) (qw_yn q.2) ∈ qw_tw ∧ ((ci = 13 ∧ (qw_yn q.2).cls = "java/lang/String") ∨ ∃ c, (qw_cl wC)[ci]? = some c ∧ c.1 = (qw_yn q.2).cls)) :=
  qw_all (List.forall_mem_cons.mpr ⟨⟨tz_111, tz_109, tz_76, by decide +kernel, fun _ => tz_110, fun _ h => (by cases h)⟩, fun _ h => absurd h List.not_mem_nil⟩)
theorem qk_5_wC : qw_ok qw_tw wC qk_5 := ⟨qw_tw_good, wC_wf, wC_cok, wC_tok, qk_5_1wC, qk_5_2wC, qw_all (fun _ h => absurd h List.not_mem_nil), qw_all (fun _ h => absurd h List.not_mem_nil), fun j q z h => (by cases h), fun j h => (qw_ka0 h).elim, qw_all (fun _ h => absurd h List.not_mem_nil), qw_all (fun _ h => absurd h List.not_mem_nil)⟩
def qk_6 : qw_K := ("ShadowTheatre$Sheet", [(9, 6, 0), (15, 6, 1), (19, 6, 2)], [(22, none, my_J9_min), (28, some 6, my_X6_has)], [], [], [], [], 0, [])
theorem qk_6_1wC : ∀ j q, qw_lk (qw_kf qk_6) j = some q → ∃ c, (qw_cl wC)[q.1]? = some c ∧ q.2 < c.2.2 ∧ (Cond.fieldLink (qw_kn qk_6) j (c.2.1 q.2).1 (c.2.1 q.2).2.1 (c.2.1 q.2).2.2.1 ∈ qw_tw ∨ ∃ host, (qw_kn qk_6, j, (c.2.1 q.2).1, (c.2.1 q.2).2.1, (c.2.1 q.2).2.2.1, host) ∈ qw_nst wC) :=
  qw_all (List.forall_mem_cons.mpr ⟨⟨_, rfl, by decide, Or.inl tz_386⟩, List.forall_mem_cons.mpr ⟨⟨_, rfl, by decide, Or.inl tz_388⟩, List.forall_mem_cons.mpr ⟨⟨_, rfl, by decide, Or.inl tz_390⟩, fun _ h => absurd h List.not_mem_nil⟩⟩⟩)
theorem qk_6_2wC : ∀ j q, qw_lk (qw_kc qk_6) j = some q → qw_yc q.2 ∈ qw_tw ∧ Cond.methodLink (qw_kn qk_6) j (qw_yn q.2) ∈ qw_tw ∧ Cond.initialized (qw_yn q.2).cls ∈ qw_tw ∧ ((qw_yn q.2).cls ≠ "java/lang/invoke/MethodHandle" ∧ (qw_yn q.2).cls ≠ "java/lang/invoke/VarHandle" ∧ (parseMethodDescriptor (qw_yn q.2).desc).map (fun d => d.parameters.length) = some (qw_yp q.2)) ∧
    (q.1 = none → Cond.static (qw_yn q.2) ∈ qw_tw) ∧ (∀ ci, q.1 = some ci → Cond.instanceMethod (qw_yn q.2) ∈ qw_tw ∧ Cond.selects (qw_yn q.2).cls (qw_yn q.2) (qw_yn q.2) ∈ qw_tw ∧ ((ci = 13 ∧ (qw_yn q.2).cls = "java/lang/String") ∨ ∃ c, (qw_cl wC)[ci]? = some c ∧ c.1 = (qw_yn q.2).cls)) :=
  qw_all (List.forall_mem_cons.mpr ⟨⟨tz_498, tz_1039, tz_76, by decide +kernel, fun _ => tz_497, fun _ h => (by cases h)⟩, List.forall_mem_cons.mpr ⟨⟨tz_672, tz_669, tz_86, by decide +kernel, fun h => (by cases h), fun ci h => (by cases h; exact ⟨tz_670, tz_671, Or.inr ⟨_, rfl, rfl⟩⟩)⟩, fun _ h => absurd h List.not_mem_nil⟩⟩)
theorem qk_6_wC : qw_ok qw_tw wC qk_6 := ⟨qw_tw_good, wC_wf, wC_cok, wC_tok, qk_6_1wC, qk_6_2wC, qw_all (fun _ h => absurd h List.not_mem_nil), qw_all (fun _ h => absurd h List.not_mem_nil), fun j q z h => (by cases h), fun j h => (qw_ka0 h).elim, qw_all (fun _ h => absurd h List.not_mem_nil), qw_all (fun _ h => absurd h List.not_mem_nil)⟩
def qk_7 : qw_K := ("ShadowTheatre$Show", [(12, 7, 0), (21, 7, 1), (28, 7, 2), (37, 7, 3), (46, 7, 4), (50, 7, 5), (54, 5, 1), (85, 8, 7), (100, 9, 5)], [(57, some 5, my_X5_item), (61, some 8, my_X8_start), (64, some 1, my_X1_figureOf), (67, some 1, my_X1_whitherOf), (70, some 8, my_X8_move), (74, some 7, my_X7_doCues), (77, some 7, my_X7_isOut), (81, some 8, my_X8_shine), (89, some 3, my_X3_falseBy), (93, some 3, my_X3_isShownBy), (97, some 7, my_X7_goTo), (101, some 8, my_X8_coverOf), (104, some 8, my_X8_depthOf), (107, some 8, my_X8_placeOf), (110, none, my_J6_bitCount), (115, none, my_X7_leastBit), (118, some 7, my_X7_isShownNow), (122, some 8, my_X8_touchingPair), (126, some 2, my_X2_dark)], [], [], [], [], 0, [])
theorem qk_7_1wC : ∀ j q, qw_lk (qw_kf qk_7) j = some q → ∃ c, (qw_cl wC)[q.1]? = some c ∧ q.2 < c.2.2 ∧ (Cond.fieldLink (qw_kn qk_7) j (c.2.1 q.2).1 (c.2.1 q.2).2.1 (c.2.1 q.2).2.2.1 ∈ qw_tw ∨ ∃ host, (qw_kn qk_7, j, (c.2.1 q.2).1, (c.2.1 q.2).2.1, (c.2.1 q.2).2.2.1, host) ∈ qw_nst wC) :=
  qw_all (List.forall_mem_cons.mpr ⟨⟨_, rfl, by decide, Or.inl tz_275⟩, List.forall_mem_cons.mpr ⟨⟨_, rfl, by decide, Or.inl tz_279⟩, List.forall_mem_cons.mpr ⟨⟨_, rfl, by decide, Or.inl tz_283⟩, List.forall_mem_cons.mpr ⟨⟨_, rfl, by decide, Or.inl tz_285⟩, List.forall_mem_cons.mpr ⟨⟨_, rfl, by decide, Or.inl tz_289⟩, List.forall_mem_cons.mpr ⟨⟨_, rfl, by decide, Or.inl tz_292⟩, List.forall_mem_cons.mpr ⟨⟨_, rfl, by decide, Or.inr ⟨_, List.mem_of_getElem? (i := 0) rfl⟩⟩, List.forall_mem_cons.mpr ⟨⟨_, rfl, by decide, Or.inr ⟨_, List.mem_of_getElem? (i := 25) rfl⟩⟩, List.forall_mem_cons.mpr ⟨⟨_, rfl, by decide, Or.inr ⟨_, List.mem_of_getElem? (i := 13) rfl⟩⟩, fun _ h => absurd h List.not_mem_nil⟩⟩⟩⟩⟩⟩⟩⟩⟩)
theorem qk_7_2wC : ∀ j q, qw_lk (qw_kc qk_7) j = some q → qw_yc q.2 ∈ qw_tw ∧ Cond.methodLink (qw_kn qk_7) j (qw_yn q.2) ∈ qw_tw ∧ Cond.initialized (qw_yn q.2).cls ∈ qw_tw ∧ ((qw_yn q.2).cls ≠ "java/lang/invoke/MethodHandle" ∧ (qw_yn q.2).cls ≠ "java/lang/invoke/VarHandle" ∧ (parseMethodDescriptor (qw_yn q.2).desc).map (fun d => d.parameters.length) = some (qw_yp q.2)) ∧
    (q.1 = none → Cond.static (qw_yn q.2) ∈ qw_tw) ∧ (∀ ci, q.1 = some ci → Cond.instanceMethod (qw_yn q.2) ∈ qw_tw ∧ Cond.selects (qw_yn q.2).cls (qw_yn q.2) (qw_yn q.2) ∈ qw_tw ∧ ((ci = 13 ∧ (qw_yn q.2).cls = "java/lang/String") ∨ ∃ c, (qw_cl wC)[ci]? = some c ∧ c.1 = (qw_yn q.2).cls)) :=
  qw_all (List.forall_mem_cons.mpr ⟨⟨tz_461, tz_700, tz_75, by decide +kernel, fun h => (by cases h), fun ci h => (by cases h; exact ⟨tz_459, tz_460, Or.inr ⟨_, rfl, rfl⟩⟩)⟩, List.forall_mem_cons.mpr ⟨⟨tz_684, tz_681, tz_82, by decide +kernel, fun h => (by cases h), fun ci h => (by cases h; exact ⟨tz_682, tz_683, Or.inr ⟨_, rfl, rfl⟩⟩)⟩, List.forall_mem_cons.mpr ⟨⟨tz_620, tz_689, tz_79, by decide +kernel, fun h => (by cases h), fun ci h => (by cases h; exact ⟨tz_618, tz_619, Or.inr ⟨_, rfl, rfl⟩⟩)⟩, List.forall_mem_cons.mpr ⟨⟨tz_624, tz_690, tz_79, by decide +kernel, fun h => (by cases h), fun ci h => (by cases h; exact ⟨tz_622, tz_623, Or.inr ⟨_, rfl, rfl⟩⟩)⟩, List.forall_mem_cons.mpr ⟨⟨tz_694, tz_691, tz_82, by decide +kernel, fun h => (by cases h), fun ci h => (by cases h; exact ⟨tz_692, tz_693, Or.inr ⟨_, rfl, rfl⟩⟩)⟩, List.forall_mem_cons.mpr ⟨⟨tz_688, tz_685, tz_77, by decide +kernel, fun h => (by cases h), fun ci h => (by cases h; exact ⟨tz_686, tz_687, Or.inr ⟨_, rfl, rfl⟩⟩)⟩, List.forall_mem_cons.mpr ⟨⟨tz_699, tz_696, tz_77, by decide +kernel, fun h => (by cases h), fun ci h => (by cases h; exact ⟨tz_697, tz_698, Or.inr ⟨_, rfl, rfl⟩⟩)⟩, List.forall_mem_cons.mpr ⟨⟨tz_704, tz_701, tz_82, by decide +kernel, fun h => (by cases h), fun ci h => (by cases h; exact ⟨tz_702, tz_703, Or.inr ⟨_, rfl, rfl⟩⟩)⟩, List.forall_mem_cons.mpr ⟨⟨tz_768, tz_765, tz_80, by decide +kernel, fun h => (by cases h), fun ci h => (by cases h; exact ⟨tz_766, tz_767, Or.inr ⟨_, rfl, rfl⟩⟩)⟩, List.forall_mem_cons.mpr ⟨⟨tz_790, tz_787, tz_80, by decide +kernel, fun h => (by cases h), fun ci h => (by cases h; exact ⟨tz_788, tz_789, Or.inr ⟨_, rfl, rfl⟩⟩)⟩, List.forall_mem_cons.mpr ⟨⟨tz_730, tz_727, tz_77, by decide +kernel, fun h => (by cases h), fun ci h => (by cases h; exact ⟨tz_728, tz_729, Or.inr ⟨_, rfl, rfl⟩⟩)⟩, List.forall_mem_cons.mpr ⟨⟨tz_709, tz_731, tz_82, by decide +kernel, fun h => (by cases h), fun ci h => (by cases h; exact ⟨tz_707, tz_708, Or.inr ⟨_, rfl, rfl⟩⟩)⟩, List.forall_mem_cons.mpr ⟨⟨tz_743, tz_740, tz_82, by decide +kernel, fun h => (by cases h), fun ci h => (by cases h; exact ⟨tz_741, tz_742, Or.inr ⟨_, rfl, rfl⟩⟩)⟩, List.forall_mem_cons.mpr ⟨⟨tz_747, tz_744, tz_82, by decide +kernel, fun h => (by cases h), fun ci h => (by cases h; exact ⟨tz_745, tz_746, Or.inr ⟨_, rfl, rfl⟩⟩)⟩, List.forall_mem_cons.mpr ⟨⟨tz_750, tz_748, tz_93, by decide +kernel, fun _ => tz_749, fun _ h => (by cases h)⟩, List.forall_mem_cons.mpr ⟨⟨tz_756, tz_754, tz_77, by decide +kernel, fun _ => tz_755, fun _ h => (by cases h)⟩, List.forall_mem_cons.mpr ⟨⟨tz_786, tz_783, tz_77, by decide +kernel, fun h => (by cases h), fun ci h => (by cases h; exact ⟨tz_784, tz_785, Or.inr ⟨_, rfl, rfl⟩⟩)⟩, List.forall_mem_cons.mpr ⟨⟨tz_805, tz_802, tz_82, by decide +kernel, fun h => (by cases h), fun ci h => (by cases h; exact ⟨tz_803, tz_804, Or.inr ⟨_, rfl, rfl⟩⟩)⟩, List.forall_mem_cons.mpr ⟨⟨tz_773, tz_814, tz_81, by decide +kernel, fun h => (by cases h), fun ci h => (by cases h; exact ⟨tz_771, tz_772, Or.inr ⟨_, rfl, rfl⟩⟩)⟩, fun _ h => absurd h List.not_mem_nil⟩⟩⟩⟩⟩⟩⟩⟩⟩⟩⟩⟩⟩⟩⟩⟩⟩⟩⟩)
theorem qk_7_wC : qw_ok qw_tw wC qk_7 := ⟨qw_tw_good, wC_wf, wC_cok, wC_tok, qk_7_1wC, qk_7_2wC, qw_all (fun _ h => absurd h List.not_mem_nil), qw_all (fun _ h => absurd h List.not_mem_nil), fun j q z h => (by cases h), fun j h => (qw_ka0 h).elim, qw_all (fun _ h => absurd h List.not_mem_nil), qw_all (fun _ h => absurd h List.not_mem_nil)⟩
def qk_8 : qw_K := ("ShadowTheatre$Stage", [(9, 8, 1), (15, 8, 2), (18, 8, 3), (21, 8, 4), (24, 8, 5), (27, 8, 6), (33, 8, 7), (37, 8, 0), (45, 8, 8), (49, 9, 0), (52, 9, 1), (53, 9, 2), (62, 9, 4), (77, 9, 5), (80, 9, 3)], [(41, none, my_X8_rayTo), (54, some 9, my_X9_has), (58, some 8, my_X8_workOutCover), (65, some 2, my_X2_fill), (69, some 8, my_X8_coverOf), (73, some 2, my_X2_dim)], [], [], [], [], 0, [])
theorem qk_8_1wC : ∀ j q, qw_lk (qw_kf qk_8) j = some q → ∃ c, (qw_cl wC)[q.1]? = some c ∧ q.2 < c.2.2 ∧ (Cond.fieldLink (qw_kn qk_8) j (c.2.1 q.2).1 (c.2.1 q.2).2.1 (c.2.1 q.2).2.2.1 ∈ qw_tw ∨ ∃ host, (qw_kn qk_8, j, (c.2.1 q.2).1, (c.2.1 q.2).2.1, (c.2.1 q.2).2.2.1, host) ∈ qw_nst wC) :=
  qw_all (List.forall_mem_cons.mpr ⟨⟨_, rfl, by decide, Or.inl tz_242⟩, List.forall_mem_cons.mpr ⟨⟨_, rfl, by decide, Or.inl tz_243⟩, List.forall_mem_cons.mpr ⟨⟨_, rfl, by decide, Or.inl tz_244⟩, List.forall_mem_cons.mpr ⟨⟨_, rfl, by decide, Or.inl tz_245⟩, List.forall_mem_cons.mpr ⟨⟨_, rfl, by decide, Or.inl tz_246⟩, List.forall_mem_cons.mpr ⟨⟨_, rfl, by decide, Or.inl tz_247⟩, List.forall_mem_cons.mpr ⟨⟨_, rfl, by decide, Or.inl tz_248⟩, List.forall_mem_cons.mpr ⟨⟨_, rfl, by decide, Or.inl tz_241⟩, List.forall_mem_cons.mpr ⟨⟨_, rfl, by decide, Or.inl tz_254⟩, List.forall_mem_cons.mpr ⟨⟨_, rfl, by decide, Or.inr ⟨_, List.mem_of_getElem? (i := 6) rfl⟩⟩, List.forall_mem_cons.mpr ⟨⟨_, rfl, by decide, Or.inr ⟨_, List.mem_of_getElem? (i := 7) rfl⟩⟩, List.forall_mem_cons.mpr ⟨⟨_, rfl, by decide, Or.inr ⟨_, List.mem_of_getElem? (i := 8) rfl⟩⟩, List.forall_mem_cons.mpr ⟨⟨_, rfl, by decide, Or.inr ⟨_, List.mem_of_getElem? (i := 10) rfl⟩⟩, List.forall_mem_cons.mpr ⟨⟨_, rfl, by decide, Or.inr ⟨_, List.mem_of_getElem? (i := 14) rfl⟩⟩, List.forall_mem_cons.mpr ⟨⟨_, rfl, by decide, Or.inr ⟨_, List.mem_of_getElem? (i := 9) rfl⟩⟩, fun _ h => absurd h List.not_mem_nil⟩⟩⟩⟩⟩⟩⟩⟩⟩⟩⟩⟩⟩⟩⟩)
theorem qk_8_2wC : ∀ j q, qw_lk (qw_kc qk_8) j = some q → qw_yc q.2 ∈ qw_tw ∧ Cond.methodLink (qw_kn qk_8) j (qw_yn q.2) ∈ qw_tw ∧ Cond.initialized (qw_yn q.2).cls ∈ qw_tw ∧ ((qw_yn q.2).cls ≠ "java/lang/invoke/MethodHandle" ∧ (qw_yn q.2).cls ≠ "java/lang/invoke/VarHandle" ∧ (parseMethodDescriptor (qw_yn q.2).desc).map (fun d => d.parameters.length) = some (qw_yp q.2)) ∧
    (q.1 = none → Cond.static (qw_yn q.2) ∈ qw_tw) ∧ (∀ ci, q.1 = some ci → Cond.instanceMethod (qw_yn q.2) ∈ qw_tw ∧ Cond.selects (qw_yn q.2).cls (qw_yn q.2) (qw_yn q.2) ∈ qw_tw ∧ ((ci = 13 ∧ (qw_yn q.2).cls = "java/lang/String") ∨ ∃ c, (qw_cl wC)[ci]? = some c ∧ c.1 = (qw_yn q.2).cls)) :=
  qw_all (List.forall_mem_cons.mpr ⟨⟨tz_240, tz_238, tz_82, by decide +kernel, fun _ => tz_239, fun _ h => (by cases h)⟩, List.forall_mem_cons.mpr ⟨⟨tz_607, tz_695, tz_78, by decide +kernel, fun h => (by cases h), fun ci h => (by cases h; exact ⟨tz_605, tz_606, Or.inr ⟨_, rfl, rfl⟩⟩)⟩, List.forall_mem_cons.mpr ⟨⟨tz_713, tz_710, tz_82, by decide +kernel, fun h => (by cases h), fun ci h => (by cases h; exact ⟨tz_712, tz_7, Or.inr ⟨_, rfl, rfl⟩⟩)⟩, List.forall_mem_cons.mpr ⟨⟨tz_573, tz_705, tz_81, by decide +kernel, fun h => (by cases h), fun ci h => (by cases h; exact ⟨tz_571, tz_572, Or.inr ⟨_, rfl, rfl⟩⟩)⟩, List.forall_mem_cons.mpr ⟨⟨tz_709, tz_706, tz_82, by decide +kernel, fun h => (by cases h), fun ci h => (by cases h; exact ⟨tz_707, tz_708, Or.inr ⟨_, rfl, rfl⟩⟩)⟩, List.forall_mem_cons.mpr ⟨⟨tz_717, tz_714, tz_81, by decide +kernel, fun h => (by cases h), fun ci h => (by cases h; exact ⟨tz_715, tz_716, Or.inr ⟨_, rfl, rfl⟩⟩)⟩, fun _ h => absurd h List.not_mem_nil⟩⟩⟩⟩⟩⟩)
theorem qk_8_wC : qw_ok qw_tw wC qk_8 := ⟨qw_tw_good, wC_wf, wC_cok, wC_tok, qk_8_1wC, qk_8_2wC, qw_all (fun _ h => absurd h List.not_mem_nil), qw_all (fun _ h => absurd h List.not_mem_nil), fun j q z h => (by cases h), fun j h => (qw_ka0 h).elim, qw_all (fun _ h => absurd h List.not_mem_nil), qw_all (fun _ h => absurd h List.not_mem_nil)⟩
def qk_9 : qw_K := ("ShadowTheatre$Troupe", [(9, 9, 0), (15, 9, 1), (18, 9, 2), (21, 9, 3), (24, 9, 4), (27, 9, 6), (31, 5, 1), (44, 9, 5)], [(36, some 5, my_X5_item), (40, some 9, my_X9_takes), (47, some 13, my_J0_indexOf), (52, some 9, my_X9_takesMark), (56, some 9, my_X9_has)], [], [], [(45, 0)], [], 0, [])
theorem qk_9_1wC : ∀ j q, qw_lk (qw_kf qk_9) j = some q → ∃ c, (qw_cl wC)[q.1]? = some c ∧ q.2 < c.2.2 ∧ (Cond.fieldLink (qw_kn qk_9) j (c.2.1 q.2).1 (c.2.1 q.2).2.1 (c.2.1 q.2).2.2.1 ∈ qw_tw ∨ ∃ host, (qw_kn qk_9, j, (c.2.1 q.2).1, (c.2.1 q.2).2.1, (c.2.1 q.2).2.2.1, host) ∈ qw_nst wC) :=
  qw_all (List.forall_mem_cons.mpr ⟨⟨_, rfl, by decide, Or.inl tz_138⟩, List.forall_mem_cons.mpr ⟨⟨_, rfl, by decide, Or.inl tz_140⟩, List.forall_mem_cons.mpr ⟨⟨_, rfl, by decide, Or.inl tz_142⟩, List.forall_mem_cons.mpr ⟨⟨_, rfl, by decide, Or.inl tz_144⟩, List.forall_mem_cons.mpr ⟨⟨_, rfl, by decide, Or.inl tz_146⟩, List.forall_mem_cons.mpr ⟨⟨_, rfl, by decide, Or.inl tz_154⟩, List.forall_mem_cons.mpr ⟨⟨_, rfl, by decide, Or.inr ⟨_, List.mem_of_getElem? (i := 2) rfl⟩⟩, List.forall_mem_cons.mpr ⟨⟨_, rfl, by decide, Or.inl tz_148⟩, fun _ h => absurd h List.not_mem_nil⟩⟩⟩⟩⟩⟩⟩⟩)
theorem qk_9_2wC : ∀ j q, qw_lk (qw_kc qk_9) j = some q → qw_yc q.2 ∈ qw_tw ∧ Cond.methodLink (qw_kn qk_9) j (qw_yn q.2) ∈ qw_tw ∧ Cond.initialized (qw_yn q.2).cls ∈ qw_tw ∧ ((qw_yn q.2).cls ≠ "java/lang/invoke/MethodHandle" ∧ (qw_yn q.2).cls ≠ "java/lang/invoke/VarHandle" ∧ (parseMethodDescriptor (qw_yn q.2).desc).map (fun d => d.parameters.length) = some (qw_yp q.2)) ∧
    (q.1 = none → Cond.static (qw_yn q.2) ∈ qw_tw) ∧ (∀ ci, q.1 = some ci → Cond.instanceMethod (qw_yn q.2) ∈ qw_tw ∧ Cond.selects (qw_yn q.2).cls (qw_yn q.2) (qw_yn q.2) ∈ qw_tw ∧ ((ci = 13 ∧ (qw_yn q.2).cls = "java/lang/String") ∨ ∃ c, (qw_cl wC)[ci]? = some c ∧ c.1 = (qw_yn q.2).cls)) :=
  qw_all (List.forall_mem_cons.mpr ⟨⟨tz_461, tz_458, tz_75, by decide +kernel, fun h => (by cases h), fun ci h => (by cases h; exact ⟨tz_459, tz_460, Or.inr ⟨_, rfl, rfl⟩⟩)⟩, List.forall_mem_cons.mpr ⟨⟨tz_465, tz_462, tz_78, by decide +kernel, fun h => (by cases h), fun ci h => (by cases h; exact ⟨tz_464, tz_2, Or.inr ⟨_, rfl, rfl⟩⟩)⟩, List.forall_mem_cons.mpr ⟨⟨tz_470, tz_467, tz_88, by decide +kernel, fun h => (by cases h), fun ci h => (by cases h; exact ⟨tz_468, tz_469, Or.inl ⟨rfl, rfl⟩⟩)⟩, List.forall_mem_cons.mpr ⟨⟨tz_554, tz_551, tz_78, by decide +kernel, fun h => (by cases h), fun ci h => (by cases h; exact ⟨tz_553, tz_3, Or.inr ⟨_, rfl, rfl⟩⟩)⟩, List.forall_mem_cons.mpr ⟨⟨tz_607, tz_612, tz_78, by decide +kernel, fun h => (by cases h), fun ci h => (by cases h; exact ⟨tz_605, tz_606, Or.inr ⟨_, rfl, rfl⟩⟩)⟩, fun _ h => absurd h List.not_mem_nil⟩⟩⟩⟩⟩)
theorem qk_9_wC : qw_ok qw_tw wC qk_9 := ⟨qw_tw_good, wC_wf, wC_cok, wC_tok, qk_9_1wC, qk_9_2wC, qw_all (fun _ h => absurd h List.not_mem_nil), qw_all (fun _ h => absurd h List.not_mem_nil), fun j q z h => (by cases h), fun j h => (qw_ka0 h).elim, qw_all (List.forall_mem_cons.mpr ⟨⟨"krgb", List.mem_of_getElem? (i := 0) rfl⟩, fun _ h => absurd h List.not_mem_nil⟩), qw_all (fun _ h => absurd h List.not_mem_nil)⟩
def qk_10 : qw_K := ("ShadowTheatre$Witness", [(14, 10, 2), (20, 10, 3), (24, 10, 0), (28, 7, 4), (34, 10, 1), (39, 5, 1), (50, 7, 1), (79, 8, 7)], [(35, some 5, my_X5_add), (43, some 5, my_X5_item), (46, some 10, my_X10_watchedSteps), (54, some 1, my_X1_figureOf), (59, some 1, my_X1_whitherOf), (62, some 8, my_X8_move), (68, some 7, my_X7_isOut), (72, some 8, my_X8_shine), (76, some 10, my_X10_agreesIn), (83, some 2, my_X2_lightOf), (88, some 1, my_X1_steps), (91, some 7, my_X7_open), (94, some 10, my_X10_agrees), (97, some 8, my_X8_paint), (100, some 8, my_X8_placeOf), (103, some 8, my_X8_put), (107, some 10, my_X10_tallyLights), (110, none, my_J9_max), (116, some 7, my_X7_doCues)], [], [], [], [], 0, [])
theorem qk_10_1wC : ∀ j q, qw_lk (qw_kf qk_10) j = some q → ∃ c, (qw_cl wC)[q.1]? = some c ∧ q.2 < c.2.2 ∧ (Cond.fieldLink (qw_kn qk_10) j (c.2.1 q.2).1 (c.2.1 q.2).2.1 (c.2.1 q.2).2.2.1 ∈ qw_tw ∨ ∃ host, (qw_kn qk_10, j, (c.2.1 q.2).1, (c.2.1 q.2).2.1, (c.2.1 q.2).2.2.1, host) ∈ qw_nst wC) :=
  qw_all (List.forall_mem_cons.mpr ⟨⟨_, rfl, by decide, Or.inl tz_344⟩, List.forall_mem_cons.mpr ⟨⟨_, rfl, by decide, Or.inl tz_346⟩, List.forall_mem_cons.mpr ⟨⟨_, rfl, by decide, Or.inl tz_342⟩, List.forall_mem_cons.mpr ⟨⟨_, rfl, by decide, Or.inr ⟨_, List.mem_of_getElem? (i := 37) rfl⟩⟩, List.forall_mem_cons.mpr ⟨⟨_, rfl, by decide, Or.inl tz_343⟩, List.forall_mem_cons.mpr ⟨⟨_, rfl, by decide, Or.inr ⟨_, List.mem_of_getElem? (i := 5) rfl⟩⟩, List.forall_mem_cons.mpr ⟨⟨_, rfl, by decide, Or.inr ⟨_, List.mem_of_getElem? (i := 33) rfl⟩⟩, List.forall_mem_cons.mpr ⟨⟨_, rfl, by decide, Or.inr ⟨_, List.mem_of_getElem? (i := 24) rfl⟩⟩, fun _ h => absurd h List.not_mem_nil⟩⟩⟩⟩⟩⟩⟩⟩)
theorem qk_10_2wC : ∀ j q, qw_lk (qw_kc qk_10) j = some q → qw_yc q.2 ∈ qw_tw ∧ Cond.methodLink (qw_kn qk_10) j (qw_yn q.2) ∈ qw_tw ∧ Cond.initialized (qw_yn q.2).cls ∈ qw_tw ∧ ((qw_yn q.2).cls ≠ "java/lang/invoke/MethodHandle" ∧ (qw_yn q.2).cls ≠ "java/lang/invoke/VarHandle" ∧ (parseMethodDescriptor (qw_yn q.2).desc).map (fun d => d.parameters.length) = some (qw_yp q.2)) ∧
    (q.1 = none → Cond.static (qw_yn q.2) ∈ qw_tw) ∧ (∀ ci, q.1 = some ci → Cond.instanceMethod (qw_yn q.2) ∈ qw_tw ∧ Cond.selects (qw_yn q.2).cls (qw_yn q.2) (qw_yn q.2) ∈ qw_tw ∧ ((ci = 13 ∧ (qw_yn q.2).cls = "java/lang/String") ∨ ∃ c, (qw_cl wC)[ci]? = some c ∧ c.1 = (qw_yn q.2).cls)) :=
  qw_all (List.forall_mem_cons.mpr ⟨⟨tz_449, tz_898, tz_75, by decide +kernel, fun h => (by cases h), fun ci h => (by cases h; exact ⟨tz_447, tz_448, Or.inr ⟨_, rfl, rfl⟩⟩)⟩, List.forall_mem_cons.mpr ⟨⟨tz_461, tz_928, tz_75, by decide +kernel, fun h => (by cases h), fun ci h => (by cases h; exact ⟨tz_459, tz_460, Or.inr ⟨_, rfl, rfl⟩⟩)⟩, List.forall_mem_cons.mpr ⟨⟨tz_927, tz_924, tz_84, by decide +kernel, fun h => (by cases h), fun ci h => (by cases h; exact ⟨tz_926, tz_13, Or.inr ⟨_, rfl, rfl⟩⟩)⟩, List.forall_mem_cons.mpr ⟨⟨tz_620, tz_929, tz_79, by decide +kernel, fun h => (by cases h), fun ci h => (by cases h; exact ⟨tz_618, tz_619, Or.inr ⟨_, rfl, rfl⟩⟩)⟩, List.forall_mem_cons.mpr ⟨⟨tz_624, tz_930, tz_79, by decide +kernel, fun h => (by cases h), fun ci h => (by cases h; exact ⟨tz_622, tz_623, Or.inr ⟨_, rfl, rfl⟩⟩)⟩, List.forall_mem_cons.mpr ⟨⟨tz_694, tz_931, tz_82, by decide +kernel, fun h => (by cases h), fun ci h => (by cases h; exact ⟨tz_692, tz_693, Or.inr ⟨_, rfl, rfl⟩⟩)⟩, List.forall_mem_cons.mpr ⟨⟨tz_699, tz_932, tz_77, by decide +kernel, fun h => (by cases h), fun ci h => (by cases h; exact ⟨tz_697, tz_698, Or.inr ⟨_, rfl, rfl⟩⟩)⟩, List.forall_mem_cons.mpr ⟨⟨tz_704, tz_933, tz_82, by decide +kernel, fun h => (by cases h), fun ci h => (by cases h; exact ⟨tz_702, tz_703, Or.inr ⟨_, rfl, rfl⟩⟩)⟩, List.forall_mem_cons.mpr ⟨⟨tz_937, tz_934, tz_84, by decide +kernel, fun h => (by cases h), fun ci h => (by cases h; exact ⟨tz_936, tz_14, Or.inr ⟨_, rfl, rfl⟩⟩)⟩, List.forall_mem_cons.mpr ⟨⟨tz_636, tz_938, tz_81, by decide +kernel, fun h => (by cases h), fun ci h => (by cases h; exact ⟨tz_634, tz_635, Or.inr ⟨_, rfl, rfl⟩⟩)⟩, List.forall_mem_cons.mpr ⟨⟨tz_914, tz_911, tz_79, by decide +kernel, fun h => (by cases h), fun ci h => (by cases h; exact ⟨tz_912, tz_913, Or.inr ⟨_, rfl, rfl⟩⟩)⟩, List.forall_mem_cons.mpr ⟨⟨tz_919, tz_916, tz_77, by decide +kernel, fun h => (by cases h), fun ci h => (by cases h; exact ⟨tz_917, tz_918, Or.inr ⟨_, rfl, rfl⟩⟩)⟩, List.forall_mem_cons.mpr ⟨⟨tz_923, tz_920, tz_84, by decide +kernel, fun h => (by cases h), fun ci h => (by cases h; exact ⟨tz_922, tz_12, Or.inr ⟨_, rfl, rfl⟩⟩)⟩, List.forall_mem_cons.mpr ⟨⟨tz_950, tz_947, tz_82, by decide +kernel, fun h => (by cases h), fun ci h => (by cases h; exact ⟨tz_948, tz_949, Or.inr ⟨_, rfl, rfl⟩⟩)⟩, List.forall_mem_cons.mpr ⟨⟨tz_747, tz_955, tz_82, by decide +kernel, fun h => (by cases h), fun ci h => (by cases h; exact ⟨tz_745, tz_746, Or.inr ⟨_, rfl, rfl⟩⟩)⟩, List.forall_mem_cons.mpr ⟨⟨tz_831, tz_956, tz_82, by decide +kernel, fun h => (by cases h), fun ci h => (by cases h; exact ⟨tz_829, tz_830, Or.inr ⟨_, rfl, rfl⟩⟩)⟩, List.forall_mem_cons.mpr ⟨⟨tz_968, tz_965, tz_84, by decide +kernel, fun h => (by cases h), fun ci h => (by cases h; exact ⟨tz_967, tz_15, Or.inr ⟨_, rfl, rfl⟩⟩)⟩, List.forall_mem_cons.mpr ⟨⟨tz_111, tz_970, tz_76, by decide +kernel, fun _ => tz_110, fun _ h => (by cases h)⟩, List.forall_mem_cons.mpr ⟨⟨tz_688, tz_969, tz_77, by decide +kernel, fun h => (by cases h), fun ci h => (by cases h; exact ⟨tz_686, tz_687, Or.inr ⟨_, rfl, rfl⟩⟩)⟩, fun _ h => absurd h List.not_mem_nil⟩⟩⟩⟩⟩⟩⟩⟩⟩⟩⟩⟩⟩⟩⟩⟩⟩⟩⟩)
theorem qk_10_wC : qw_ok qw_tw wC qk_10 := ⟨qw_tw_good, wC_wf, wC_cok, wC_tok, qk_10_1wC, qk_10_2wC, qw_all (fun _ h => absurd h List.not_mem_nil), qw_all (fun _ h => absurd h List.not_mem_nil), fun j q z h => (by cases h), fun j h => (qw_ka0 h).elim, qw_all (fun _ h => absurd h List.not_mem_nil), qw_all (fun _ h => absurd h List.not_mem_nil)⟩
def qk_11 : qw_K := ("ShadowTheatre", [(14, 11, 0), (18, 11, 1), (21, 11, 2), (27, 11, 3), (36, 11, 4), (43, 11, 5), (50, 11, 6), (56, 11, 7), (61, 7, 4), (89, 5, 1), (100, 7, 0), (104, 9, 6), (109, 7, 1), (113, 1, 3), (116, 7, 2), (120, 3, 2), (140, 7, 5), (143, 7, 3), (156, 6, 2), (163, 8, 7), (217, 10, 2), (240, 0, 2), (244, 0, 3), (262, 6, 1), (268, 6, 0), (283, 9, 5), (287, 3, 1), (290, 11, 8)], [(65, some 8, my_X8_forgetCovers), (70, some 11, my_X11_textOf), (74, none, my_X11_isBelow), (78, some 5, my_X5_isFull), (82, some 5, my_X5_add), (86, some 11, my_X11_parse), (93, some 5, my_X5_clear), (97, some 5, my_X5_drop), (123, some 9, my_X9_has), (127, some 9, my_X9_detail), (131, some 1, my_X1_figureOf), (134, some 1, my_X1_whitherOf), (137, some 3, my_X3_lightOf), (146, some 11, my_X11_sheetOf), (150, some 6, my_X6_isLost), (153, some 11, my_X11_find), (157, some 6, my_X6_item), (160, some 7, my_X7_lightUp), (167, some 2, my_X2_lightOf), (170, some 7, my_X7_coversOf), (173, some 7, my_X7_whereabouts), (177, some 7, my_X7_falseNow), (180, some 2, my_X2_dark), (183, some 7, my_X7_shownSteps), (187, none, my_X7_leastBit), (190, none, my_J6_bitCount), (195, some 7, my_X7_firstTouch), (198, some 7, my_X7_darkestStep), (201, some 4, my_X4_planHang), (205, some 4, my_X4_answer), (208, some 4, my_X4_planShift), (211, some 4, my_X4_planMore), (214, some 4, my_X4_planLeave), (220, some 10, my_X10_add), (222, some 10, my_X10_neverSteps), (225, some 10, my_X10_colours), (228, some 10, my_X10_depths), (231, some 10, my_X10_cellToAsk), (236, some 0, my_X0_reckon), (247, some 0, my_X0_playOut), (250, some 6, my_X6_renew), (253, some 6, my_X6_drop), (254, none, my_X11_findingOf), (258, some 6, my_X6_put), (265, some 6, my_X6_hasRun), (278, none, my_J9_min), (284, some 1, my_X1_steps), (295, some 11, my_X11_count), (297, none, my_X11_mix), (301, some 11, my_X11_fault), (304, some 11, my_X11_mixStep), (308, some 11, my_X11_mixCell), (311, some 11, my_X11_mixFigure), (314, some 11, my_X11_mixShown), (318, some 11, my_X11_mixStepPlans), (321, some 11, my_X11_mixRest), (326, some 11, my_X11_screen), (329, some 11, my_X11_picture), (331, some 11, my_X11_light), (334, some 11, my_X11_covers), (337, some 11, my_X11_figure), (340, some 11, my_X11_shown), (343, some 11, my_X11_touched), (346, some 11, my_X11_darkest), (349, some 11, my_X11_never), (352, some 9, my_X9_parse), (355, some 1, my_X1_parse), (356, some 3, my_X3_parse), (357, some 6, my_X6_has)], [(261, -2147483648)], [(234, -9223372036854775806), (293, 17), (324, 31)], [], [], 272, [])
theorem qk_11_1wC : ∀ j q, qw_lk (qw_kf qk_11) j = some q → ∃ c, (qw_cl wC)[q.1]? = some c ∧ q.2 < c.2.2 ∧ (Cond.fieldLink (qw_kn qk_11) j (c.2.1 q.2).1 (c.2.1 q.2).2.1 (c.2.1 q.2).2.2.1 ∈ qw_tw ∨ ∃ host, (qw_kn qk_11, j, (c.2.1 q.2).1, (c.2.1 q.2).2.1, (c.2.1 q.2).2.2.1, host) ∈ qw_nst wC) :=
  qw_all (List.forall_mem_cons.mpr ⟨⟨_, rfl, by decide, Or.inl tz_403⟩, List.forall_mem_cons.mpr ⟨⟨_, rfl, by decide, Or.inl tz_404⟩, List.forall_mem_cons.mpr ⟨⟨_, rfl, by decide, Or.inl tz_405⟩, List.forall_mem_cons.mpr ⟨⟨_, rfl, by decide, Or.inl tz_406⟩, List.forall_mem_cons.mpr ⟨⟨_, rfl, by decide, Or.inl tz_407⟩, List.forall_mem_cons.mpr ⟨⟨_, rfl, by decide, Or.inl tz_408⟩, List.forall_mem_cons.mpr ⟨⟨_, rfl, by decide, Or.inl tz_409⟩, List.forall_mem_cons.mpr ⟨⟨_, rfl, by decide, Or.inl tz_410⟩, List.forall_mem_cons.mpr ⟨⟨_, rfl, by decide, Or.inr ⟨_, List.mem_of_getElem? (i := 39) rfl⟩⟩, List.forall_mem_cons.mpr ⟨⟨_, rfl, by decide, Or.inr ⟨_, List.mem_of_getElem? (i := 4) rfl⟩⟩, List.forall_mem_cons.mpr ⟨⟨_, rfl, by decide, Or.inr ⟨_, List.mem_of_getElem? (i := 30) rfl⟩⟩, List.forall_mem_cons.mpr ⟨⟨_, rfl, by decide, Or.inr ⟨_, List.mem_of_getElem? (i := 16) rfl⟩⟩, List.forall_mem_cons.mpr ⟨⟨_, rfl, by decide, Or.inr ⟨_, List.mem_of_getElem? (i := 34) rfl⟩⟩, List.forall_mem_cons.mpr ⟨⟨_, rfl, by decide, Or.inr ⟨_, List.mem_of_getElem? (i := 17) rfl⟩⟩, List.forall_mem_cons.mpr ⟨⟨_, rfl, by decide, Or.inr ⟨_, List.mem_of_getElem? (i := 35) rfl⟩⟩, List.forall_mem_cons.mpr ⟨⟨_, rfl, by decide, Or.inr ⟨_, List.mem_of_getElem? (i := 22) rfl⟩⟩, List.forall_mem_cons.mpr ⟨⟨_, rfl, by decide, Or.inr ⟨_, List.mem_of_getElem? (i := 41) rfl⟩⟩, List.forall_mem_cons.mpr ⟨⟨_, rfl, by decide, Or.inr ⟨_, List.mem_of_getElem? (i := 36) rfl⟩⟩, List.forall_mem_cons.mpr ⟨⟨_, rfl, by decide, Or.inr ⟨_, List.mem_of_getElem? (i := 47) rfl⟩⟩, List.forall_mem_cons.mpr ⟨⟨_, rfl, by decide, Or.inr ⟨_, List.mem_of_getElem? (i := 27) rfl⟩⟩, List.forall_mem_cons.mpr ⟨⟨_, rfl, by decide, Or.inr ⟨_, List.mem_of_getElem? (i := 42) rfl⟩⟩, List.forall_mem_cons.mpr ⟨⟨_, rfl, by decide, Or.inr ⟨_, List.mem_of_getElem? (i := 43) rfl⟩⟩, List.forall_mem_cons.mpr ⟨⟨_, rfl, by decide, Or.inr ⟨_, List.mem_of_getElem? (i := 44) rfl⟩⟩, List.forall_mem_cons.mpr ⟨⟨_, rfl, by decide, Or.inr ⟨_, List.mem_of_getElem? (i := 46) rfl⟩⟩, List.forall_mem_cons.mpr ⟨⟨_, rfl, by decide, Or.inr ⟨_, List.mem_of_getElem? (i := 45) rfl⟩⟩, List.forall_mem_cons.mpr ⟨⟨_, rfl, by decide, Or.inr ⟨_, List.mem_of_getElem? (i := 15) rfl⟩⟩, List.forall_mem_cons.mpr ⟨⟨_, rfl, by decide, Or.inr ⟨_, List.mem_of_getElem? (i := 21) rfl⟩⟩, List.forall_mem_cons.mpr ⟨⟨_, rfl, by decide, Or.inl tz_411⟩, fun _ h => absurd h List.not_mem_nil⟩⟩⟩⟩⟩⟩⟩⟩⟩⟩⟩⟩⟩⟩⟩⟩⟩⟩⟩⟩⟩⟩⟩⟩⟩⟩⟩⟩)
theorem qk_11_2wC : ∀ j q, qw_lk (qw_kc qk_11) j = some q → qw_yc q.2 ∈ qw_tw ∧ Cond.methodLink (qw_kn qk_11) j (qw_yn q.2) ∈ qw_tw ∧ Cond.initialized (qw_yn q.2).cls ∈ qw_tw ∧ ((qw_yn q.2).cls ≠ "java/lang/invoke/MethodHandle" ∧ (qw_yn q.2).cls ≠ "java/lang/invoke/VarHandle" ∧ (parseMethodDescriptor (qw_yn q.2).desc).map (fun d => d.parameters.length) = some (qw_yp q.2)) ∧
    (q.1 = none → Cond.static (qw_yn q.2) ∈ qw_tw) ∧ (∀ ci, q.1 = some ci → Cond.instanceMethod (qw_yn q.2) ∈ qw_tw ∧ Cond.selects (qw_yn q.2).cls (qw_yn q.2) (qw_yn q.2) ∈ qw_tw ∧ ((ci = 13 ∧ (qw_yn q.2).cls = "java/lang/String") ∨ ∃ c, (qw_cl wC)[ci]? = some c ∧ c.1 = (qw_yn q.2).cls)) :=
  qw_all (List.forall_mem_cons.mpr ⟨⟨tz_402, tz_399, tz_82, by decide +kernel, fun h => (by cases h), fun ci h => (by cases h; exact ⟨tz_400, tz_401, Or.inr ⟨_, rfl, rfl⟩⟩)⟩, List.forall_mem_cons.mpr ⟨⟨tz_438, tz_435, tz_74, by decide +kernel, fun h => (by cases h), fun ci h => (by cases h; exact ⟨tz_437, tz_0, Or.inr ⟨_, rfl, rfl⟩⟩)⟩, List.forall_mem_cons.mpr ⟨⟨tz_441, tz_439, tz_74, by decide +kernel, fun _ => tz_440, fun _ h => (by cases h)⟩, List.forall_mem_cons.mpr ⟨⟨tz_445, tz_442, tz_75, by decide +kernel, fun h => (by cases h), fun ci h => (by cases h; exact ⟨tz_443, tz_444, Or.inr ⟨_, rfl, rfl⟩⟩)⟩, List.forall_mem_cons.mpr ⟨⟨tz_449, tz_446, tz_75, by decide +kernel, fun h => (by cases h), fun ci h => (by cases h; exact ⟨tz_447, tz_448, Or.inr ⟨_, rfl, rfl⟩⟩)⟩, List.forall_mem_cons.mpr ⟨⟨tz_453, tz_450, tz_74, by decide +kernel, fun h => (by cases h), fun ci h => (by cases h; exact ⟨tz_452, tz_1, Or.inr ⟨_, rfl, rfl⟩⟩)⟩, List.forall_mem_cons.mpr ⟨⟨tz_587, tz_584, tz_75, by decide +kernel, fun h => (by cases h), fun ci h => (by cases h; exact ⟨tz_585, tz_586, Or.inr ⟨_, rfl, rfl⟩⟩)⟩, List.forall_mem_cons.mpr ⟨⟨tz_595, tz_592, tz_75, by decide +kernel, fun h => (by cases h), fun ci h => (by cases h; exact ⟨tz_593, tz_594, Or.inr ⟨_, rfl, rfl⟩⟩)⟩, List.forall_mem_cons.mpr ⟨⟨tz_607, tz_604, tz_78, by decide +kernel, fun h => (by cases h), fun ci h => (by cases h; exact ⟨tz_605, tz_606, Or.inr ⟨_, rfl, rfl⟩⟩)⟩, List.forall_mem_cons.mpr ⟨⟨tz_611, tz_608, tz_78, by decide +kernel, fun h => (by cases h), fun ci h => (by cases h; exact ⟨tz_609, tz_610, Or.inr ⟨_, rfl, rfl⟩⟩)⟩, List.forall_mem_cons.mpr ⟨⟨tz_620, tz_617, tz_79, by decide +kernel, fun h => (by cases h), fun ci h => (by cases h; exact ⟨tz_618, tz_619, Or.inr ⟨_, rfl, rfl⟩⟩)⟩, List.forall_mem_cons.mpr ⟨⟨tz_624, tz_621, tz_79, by decide +kernel, fun h => (by cases h), fun ci h => (by cases h; exact ⟨tz_622, tz_623, Or.inr ⟨_, rfl, rfl⟩⟩)⟩, List.forall_mem_cons.mpr ⟨⟨tz_632, tz_629, tz_80, by decide +kernel, fun h => (by cases h), fun ci h => (by cases h; exact ⟨tz_630, tz_631, Or.inr ⟨_, rfl, rfl⟩⟩)⟩, List.forall_mem_cons.mpr ⟨⟨tz_656, tz_653, tz_74, by decide +kernel, fun h => (by cases h), fun ci h => (by cases h; exact ⟨tz_655, tz_5, Or.inr ⟨_, rfl, rfl⟩⟩)⟩, List.forall_mem_cons.mpr ⟨⟨tz_660, tz_657, tz_86, by decide +kernel, fun h => (by cases h), fun ci h => (by cases h; exact ⟨tz_658, tz_659, Or.inr ⟨_, rfl, rfl⟩⟩)⟩, List.forall_mem_cons.mpr ⟨⟨tz_664, tz_661, tz_74, by decide +kernel, fun h => (by cases h), fun ci h => (by cases h; exact ⟨tz_663, tz_6, Or.inr ⟨_, rfl, rfl⟩⟩)⟩, List.forall_mem_cons.mpr ⟨⟨tz_668, tz_665, tz_86, by decide +kernel, fun h => (by cases h), fun ci h => (by cases h; exact ⟨tz_666, tz_667, Or.inr ⟨_, rfl, rfl⟩⟩)⟩, List.forall_mem_cons.mpr ⟨⟨tz_680, tz_677, tz_77, by decide +kernel, fun h => (by cases h), fun ci h => (by cases h; exact ⟨tz_678, tz_679, Or.inr ⟨_, rfl, rfl⟩⟩)⟩, List.forall_mem_cons.mpr ⟨⟨tz_636, tz_718, tz_81, by decide +kernel, fun h => (by cases h), fun ci h => (by cases h; exact ⟨tz_634, tz_635, Or.inr ⟨_, rfl, rfl⟩⟩)⟩, List.forall_mem_cons.mpr ⟨⟨tz_726, tz_723, tz_77, by decide +kernel, fun h => (by cases h), fun ci h => (by cases h; exact ⟨tz_724, tz_725, Or.inr ⟨_, rfl, rfl⟩⟩)⟩, List.forall_mem_cons.mpr ⟨⟨tz_739, tz_736, tz_77, by decide +kernel, fun h => (by cases h), fun ci h => (by cases h; exact ⟨tz_737, tz_738, Or.inr ⟨_, rfl, rfl⟩⟩)⟩, List.forall_mem_cons.mpr ⟨⟨tz_764, tz_761, tz_77, by decide +kernel, fun h => (by cases h), fun ci h => (by cases h; exact ⟨tz_762, tz_763, Or.inr ⟨_, rfl, rfl⟩⟩)⟩, List.forall_mem_cons.mpr ⟨⟨tz_773, tz_770, tz_81, by decide +kernel, fun h => (by cases h), fun ci h => (by cases h; exact ⟨tz_771, tz_772, Or.inr ⟨_, rfl, rfl⟩⟩)⟩, List.forall_mem_cons.mpr ⟨⟨tz_782, tz_779, tz_77, by decide +kernel, fun h => (by cases h), fun ci h => (by cases h; exact ⟨tz_780, tz_781, Or.inr ⟨_, rfl, rfl⟩⟩)⟩, List.forall_mem_cons.mpr ⟨⟨tz_756, tz_792, tz_77, by decide +kernel, fun _ => tz_755, fun _ h => (by cases h)⟩, List.forall_mem_cons.mpr ⟨⟨tz_750, tz_793, tz_93, by decide +kernel, fun _ => tz_749, fun _ h => (by cases h)⟩, List.forall_mem_cons.mpr ⟨⟨tz_801, tz_798, tz_77, by decide +kernel, fun h => (by cases h), fun ci h => (by cases h; exact ⟨tz_799, tz_800, Or.inr ⟨_, rfl, rfl⟩⟩)⟩, List.forall_mem_cons.mpr ⟨⟨tz_813, tz_810, tz_77, by decide +kernel, fun h => (by cases h), fun ci h => (by cases h; exact ⟨tz_811, tz_812, Or.inr ⟨_, rfl, rfl⟩⟩)⟩, List.forall_mem_cons.mpr ⟨⟨tz_822, tz_819, tz_83, by decide +kernel, fun h => (by cases h), fun ci h => (by cases h; exact ⟨tz_820, tz_821, Or.inr ⟨_, rfl, rfl⟩⟩)⟩, List.forall_mem_cons.mpr ⟨⟨tz_854, tz_851, tz_83, by decide +kernel, fun h => (by cases h), fun ci h => (by cases h; exact ⟨tz_852, tz_853, Or.inr ⟨_, rfl, rfl⟩⟩)⟩, List.forall_mem_cons.mpr ⟨⟨tz_862, tz_859, tz_83, by decide +kernel, fun h => (by cases h), fun ci h => (by cases h; exact ⟨tz_860, tz_861, Or.inr ⟨_, rfl, rfl⟩⟩)⟩, List.forall_mem_cons.mpr ⟨⟨tz_870, tz_867, tz_83, by decide +kernel, fun h => (by cases h), fun ci h => (by cases h; exact ⟨tz_868, tz_869, Or.inr ⟨_, rfl, rfl⟩⟩)⟩, List.forall_mem_cons.mpr ⟨⟨tz_885, tz_882, tz_83, by decide +kernel, fun h => (by cases h), fun ci h => (by cases h; exact ⟨tz_883, tz_884, Or.inr ⟨_, rfl, rfl⟩⟩)⟩, List.forall_mem_cons.mpr ⟨⟨tz_897, tz_894, tz_84, by decide +kernel, fun h => (by cases h), fun ci h => (by cases h; exact ⟨tz_895, tz_896, Or.inr ⟨_, rfl, rfl⟩⟩)⟩, List.forall_mem_cons.mpr ⟨⟨tz_910, tz_907, tz_84, by decide +kernel, fun h => (by cases h), fun ci h => (by cases h; exact ⟨tz_908, tz_909, Or.inr ⟨_, rfl, rfl⟩⟩)⟩, List.forall_mem_cons.mpr ⟨⟨tz_946, tz_943, tz_84, by decide +kernel, fun h => (by cases h), fun ci h => (by cases h; exact ⟨tz_944, tz_945, Or.inr ⟨_, rfl, rfl⟩⟩)⟩, List.forall_mem_cons.mpr ⟨⟨tz_954, tz_951, tz_84, by decide +kernel, fun h => (by cases h), fun ci h => (by cases h; exact ⟨tz_952, tz_953, Or.inr ⟨_, rfl, rfl⟩⟩)⟩, List.forall_mem_cons.mpr ⟨⟨tz_964, tz_961, tz_84, by decide +kernel, fun h => (by cases h), fun ci h => (by cases h; exact ⟨tz_962, tz_963, Or.inr ⟨_, rfl, rfl⟩⟩)⟩, List.forall_mem_cons.mpr ⟨⟨tz_979, tz_976, tz_85, by decide +kernel, fun h => (by cases h), fun ci h => (by cases h; exact ⟨tz_977, tz_978, Or.inr ⟨_, rfl, rfl⟩⟩)⟩, List.forall_mem_cons.mpr ⟨⟨tz_1012, tz_1009, tz_85, by decide +kernel, fun h => (by cases h), fun ci h => (by cases h; exact ⟨tz_1010, tz_1011, Or.inr ⟨_, rfl, rfl⟩⟩)⟩, List.forall_mem_cons.mpr ⟨⟨tz_1038, tz_1035, tz_86, by decide +kernel, fun h => (by cases h), fun ci h => (by cases h; exact ⟨tz_1036, tz_1037, Or.inr ⟨_, rfl, rfl⟩⟩)⟩, List.forall_mem_cons.mpr ⟨⟨tz_1047, tz_1044, tz_86, by decide +kernel, fun h => (by cases h), fun ci h => (by cases h; exact ⟨tz_1045, tz_1046, Or.inr ⟨_, rfl, rfl⟩⟩)⟩, List.forall_mem_cons.mpr ⟨⟨tz_1054, tz_1052, tz_74, by decide +kernel, fun _ => tz_1053, fun _ h => (by cases h)⟩, List.forall_mem_cons.mpr ⟨⟨tz_1059, tz_1056, tz_86, by decide +kernel, fun h => (by cases h), fun ci h => (by cases h; exact ⟨tz_1057, tz_1058, Or.inr ⟨_, rfl, rfl⟩⟩)⟩, List.forall_mem_cons.mpr ⟨⟨tz_1072, tz_1069, tz_86, by decide +kernel, fun h => (by cases h), fun ci h => (by cases h; exact ⟨tz_1070, tz_1071, Or.inr ⟨_, rfl, rfl⟩⟩)⟩, List.forall_mem_cons.mpr ⟨⟨tz_498, tz_1080, tz_76, by decide +kernel, fun _ => tz_497, fun _ h => (by cases h)⟩, List.forall_mem_cons.mpr ⟨⟨tz_914, tz_1085, tz_79, by decide +kernel, fun h => (by cases h), fun ci h => (by cases h; exact ⟨tz_912, tz_913, Or.inr ⟨_, rfl, rfl⟩⟩)⟩, List.forall_mem_cons.mpr ⟨⟨tz_1084, tz_1091, tz_74, by decide +kernel, fun h => (by cases h), fun ci h => (by cases h; exact ⟨tz_1082, tz_1083, Or.inr ⟨_, rfl, rfl⟩⟩)⟩, List.forall_mem_cons.mpr ⟨⟨tz_1094, tz_1092, tz_74, by decide +kernel, fun _ => tz_1093, fun _ h => (by cases h)⟩, List.forall_mem_cons.mpr ⟨⟨tz_599, tz_1096, tz_74, by decide +kernel, fun h => (by cases h), fun ci h => (by cases h; exact ⟨tz_597, tz_598, Or.inr ⟨_, rfl, rfl⟩⟩)⟩, List.forall_mem_cons.mpr ⟨⟨tz_1100, tz_1097, tz_74, by decide +kernel, fun h => (by cases h), fun ci h => (by cases h; exact ⟨tz_1099, tz_20, Or.inr ⟨_, rfl, rfl⟩⟩)⟩, List.forall_mem_cons.mpr ⟨⟨tz_1105, tz_1102, tz_74, by decide +kernel, fun h => (by cases h), fun ci h => (by cases h; exact ⟨tz_1104, tz_21, Or.inr ⟨_, rfl, rfl⟩⟩)⟩, List.forall_mem_cons.mpr ⟨⟨tz_1112, tz_1109, tz_74, by decide +kernel, fun h => (by cases h), fun ci h => (by cases h; exact ⟨tz_1111, tz_22, Or.inr ⟨_, rfl, rfl⟩⟩)⟩, List.forall_mem_cons.mpr ⟨⟨tz_1117, tz_1114, tz_74, by decide +kernel, fun h => (by cases h), fun ci h => (by cases h; exact ⟨tz_1116, tz_23, Or.inr ⟨_, rfl, rfl⟩⟩)⟩, List.forall_mem_cons.mpr ⟨⟨tz_1124, tz_1121, tz_74, by decide +kernel, fun h => (by cases h), fun ci h => (by cases h; exact ⟨tz_1123, tz_24, Or.inr ⟨_, rfl, rfl⟩⟩)⟩, List.forall_mem_cons.mpr ⟨⟨tz_1128, tz_1125, tz_74, by decide +kernel, fun h => (by cases h), fun ci h => (by cases h; exact ⟨tz_1127, tz_25, Or.inr ⟨_, rfl, rfl⟩⟩)⟩, List.forall_mem_cons.mpr ⟨⟨tz_760, tz_1101, tz_74, by decide +kernel, fun h => (by cases h), fun ci h => (by cases h; exact ⟨tz_758, tz_759, Or.inr ⟨_, rfl, rfl⟩⟩)⟩, List.forall_mem_cons.mpr ⟨⟨tz_628, tz_1106, tz_74, by decide +kernel, fun h => (by cases h), fun ci h => (by cases h; exact ⟨tz_626, tz_627, Or.inr ⟨_, rfl, rfl⟩⟩)⟩, List.forall_mem_cons.mpr ⟨⟨tz_676, tz_1107, tz_74, by decide +kernel, fun h => (by cases h), fun ci h => (by cases h; exact ⟨tz_674, tz_675, Or.inr ⟨_, rfl, rfl⟩⟩)⟩, List.forall_mem_cons.mpr ⟨⟨tz_722, tz_1108, tz_74, by decide +kernel, fun h => (by cases h), fun ci h => (by cases h; exact ⟨tz_720, tz_721, Or.inr ⟨_, rfl, rfl⟩⟩)⟩, List.forall_mem_cons.mpr ⟨⟨tz_603, tz_1113, tz_74, by decide +kernel, fun h => (by cases h), fun ci h => (by cases h; exact ⟨tz_601, tz_602, Or.inr ⟨_, rfl, rfl⟩⟩)⟩, List.forall_mem_cons.mpr ⟨⟨tz_778, tz_1118, tz_74, by decide +kernel, fun h => (by cases h), fun ci h => (by cases h; exact ⟨tz_776, tz_777, Or.inr ⟨_, rfl, rfl⟩⟩)⟩, List.forall_mem_cons.mpr ⟨⟨tz_797, tz_1119, tz_74, by decide +kernel, fun h => (by cases h), fun ci h => (by cases h; exact ⟨tz_795, tz_796, Or.inr ⟨_, rfl, rfl⟩⟩)⟩, List.forall_mem_cons.mpr ⟨⟨tz_809, tz_1120, tz_74, by decide +kernel, fun h => (by cases h), fun ci h => (by cases h; exact ⟨tz_807, tz_808, Or.inr ⟨_, rfl, rfl⟩⟩)⟩, List.forall_mem_cons.mpr ⟨⟨tz_906, tz_1129, tz_74, by decide +kernel, fun h => (by cases h), fun ci h => (by cases h; exact ⟨tz_904, tz_905, Or.inr ⟨_, rfl, rfl⟩⟩)⟩, List.forall_mem_cons.mpr ⟨⟨tz_457, tz_454, tz_78, by decide +kernel, fun h => (by cases h), fun ci h => (by cases h; exact ⟨tz_455, tz_456, Or.inr ⟨_, rfl, rfl⟩⟩)⟩, List.forall_mem_cons.mpr ⟨⟨tz_558, tz_555, tz_79, by decide +kernel, fun h => (by cases h), fun ci h => (by cases h; exact ⟨tz_556, tz_557, Or.inr ⟨_, rfl, rfl⟩⟩)⟩, List.forall_mem_cons.mpr ⟨⟨tz_569, tz_566, tz_80, by decide +kernel, fun h => (by cases h), fun ci h => (by cases h; exact ⟨tz_567, tz_568, Or.inr ⟨_, rfl, rfl⟩⟩)⟩, List.forall_mem_cons.mpr ⟨⟨tz_672, tz_1055, tz_86, by decide +kernel, fun h => (by cases h), fun ci h => (by cases h; exact ⟨tz_670, tz_671, Or.inr ⟨_, rfl, rfl⟩⟩)⟩, fun _ h => absurd h List.not_mem_nil⟩⟩⟩⟩⟩⟩⟩⟩⟩⟩⟩⟩⟩⟩⟩⟩⟩⟩⟩⟩⟩⟩⟩⟩⟩⟩⟩⟩⟩⟩⟩⟩⟩⟩⟩⟩⟩⟩⟩⟩⟩⟩⟩⟩⟩⟩⟩⟩⟩⟩⟩⟩⟩⟩⟩⟩⟩⟩⟩⟩⟩⟩⟩⟩⟩⟩⟩⟩⟩)
theorem qk_11_wC : qw_ok qw_tw wC qk_11 := ⟨qw_tw_good, wC_wf, wC_cok, wC_tok, qk_11_1wC, qk_11_2wC, qw_all (List.forall_mem_cons.mpr ⟨tz_1064, fun _ h => absurd h List.not_mem_nil⟩), qw_all (List.forall_mem_cons.mpr ⟨tz_975, List.forall_mem_cons.mpr ⟨tz_1090, List.forall_mem_cons.mpr ⟨tz_1095, fun _ h => absurd h List.not_mem_nil⟩⟩⟩), fun j q z h => (by cases h), fun j h => by
    have h := Nat.eq_of_beq_eq_true (Bool.and_eq_true_iff.mp h).1
    subst h
    exact ⟨tz_1073, tz_1075, tz_1074, tz_94⟩, qw_all (fun _ h => absurd h List.not_mem_nil), qw_all (fun _ h => absurd h List.not_mem_nil)⟩
def qk_12 : qw_K := ("ShadowTheatreModel", [(7, 12, 0), (13, 12, 1), (16, 12, 2), (19, 12, 3), (22, 12, 5), (25, 12, 6), (28, 12, 8), (31, 12, 9), (34, 12, 10), (37, 12, 11), (40, 12, 12), (43, 12, 15), (46, 12, 16), (49, 12, 17), (52, 12, 18), (55, 12, 19), (58, 12, 23), (61, 12, 24), (64, 12, 13), (74, 12, 4), (109, 12, 7), (169, 12, 14), (180, 12, 20), (198, 12, 21), (266, 12, 22), (303, 12, 25)], [(70, none, my_X12_in), (79, none, my_X12_isSheet), (85, some 12, my_X12_finds), (89, some 12, my_X12_lacks), (93, none, my_X12_cut), (98, none, my_X12_isText), (103, none, my_X12_figureOf), (106, none, my_X12_colourOf), (112, none, my_X12_partOf), (115, some 12, my_X12_stills), (122, none, my_X12_wayOf), (125, some 12, my_X12_blank), (132, some 12, my_X12_readsFigures), (136, some 12, my_X12_readsCues), (139, some 12, my_X12_readsPicture), (142, some 12, my_X12_readsText), (149, some 12, my_X12_isFigure), (154, some 12, my_X12_figureBy), (157, none, my_X12_isStep), (160, none, my_X12_isTwo), (163, some 12, my_X12_cueBy), (166, none, my_X12_isCell), (172, some 12, my_X12_flicker), (174, none, my_X12_greater), (177, none, my_X12_lesser), (183, none, my_X12_isIn), (187, some 12, my_X12_goes), (191, some 12, my_X12_keeps), (195, some 12, my_X12_lives), (201, some 12, my_X12_isOver), (205, some 12, my_X12_isOut), (208, some 12, my_X12_find), (211, some 12, my_X12_lightOf), (214, some 12, my_X12_coversOf), (217, some 12, my_X12_atOf), (220, some 12, my_X12_falseOf), (223, some 12, my_X12_darkOf), (226, some 12, my_X12_cellsTold), (229, some 12, my_X12_isShown), (232, some 12, my_X12_shownBy), (235, some 12, my_X12_isTouching), (238, some 12, my_X12_touchedBy), (241, some 12, my_X12_darkestNow), (244, some 12, my_X12_hangOf), (247, some 12, my_X12_shiftOf), (250, some 12, my_X12_isShownBy), (255, some 12, my_X12_moreOf), (258, some 12, my_X12_isShownWithout), (261, some 12, my_X12_leaveOf), (269, some 12, my_X12_isSeen), (273, some 12, my_X12_neverNow), (276, some 12, my_X12_colourBy), (279, some 12, my_X12_deepOf), (282, some 12, my_X12_wasOf), (285, some 12, my_X12_askOf), (288, none, my_X12_part), (294, some 12, my_X12_stumbleOf), (298, none, my_X12_no), (306, some 12, my_X12_lot), (311, some 12, my_X12_playOf), (314, some 12, my_X12_cuesTold), (317, some 12, my_X12_tellsAt), (323, some 12, my_X12_count), (326, some 12, my_X12_tellsFigure), (330, some 12, my_X12_tellsStep)], [(97, -2147483648), (302, 1103515245)], [(68, -9223372036854775808), (77, 3), (83, 2), (101, 255), (118, 97), (120, 104), (128, 48), (130, 55), (145, 19), (147, 31), (152, 9), (253, -1), (264, 7), (292, 16), (309, 20), (321, 17)], [], [], 0, [])
theorem qk_12_1wM : ∀ j q, qw_lk (qw_kf qk_12) j = some q → ∃ c, (qw_cl wM)[q.1]? = some c ∧ q.2 < c.2.2 ∧ (Cond.fieldLink (qw_kn qk_12) j (c.2.1 q.2).1 (c.2.1 q.2).2.1 (c.2.1 q.2).2.2.1 ∈ qw_tw ∨ ∃ host, (qw_kn qk_12, j, (c.2.1 q.2).1, (c.2.1 q.2).2.1, (c.2.1 q.2).2.2.1, host) ∈ qw_nst wM) :=
  qw_all (List.forall_mem_cons.mpr ⟨⟨_, rfl, by decide, Or.inl tz_1136⟩, List.forall_mem_cons.mpr ⟨⟨_, rfl, by decide, Or.inl tz_1137⟩, List.forall_mem_cons.mpr ⟨⟨_, rfl, by decide, Or.inl tz_1138⟩, List.forall_mem_cons.mpr ⟨⟨_, rfl, by decide, Or.inl tz_1139⟩, List.forall_mem_cons.mpr ⟨⟨_, rfl, by decide, Or.inl tz_1141⟩, List.forall_mem_cons.mpr ⟨⟨_, rfl, by decide, Or.inl tz_1142⟩, List.forall_mem_cons.mpr ⟨⟨_, rfl, by decide, Or.inl tz_1144⟩, List.forall_mem_cons.mpr ⟨⟨_, rfl, by decide, Or.inl tz_1145⟩, List.forall_mem_cons.mpr ⟨⟨_, rfl, by decide, Or.inl tz_1146⟩, List.forall_mem_cons.mpr ⟨⟨_, rfl, by decide, Or.inl tz_1147⟩, List.forall_mem_cons.mpr ⟨⟨_, rfl, by decide, Or.inl tz_1148⟩, List.forall_mem_cons.mpr ⟨⟨_, rfl, by decide, Or.inl tz_1151⟩, List.forall_mem_cons.mpr ⟨⟨_, rfl, by decide, Or.inl tz_1152⟩, List.forall_mem_cons.mpr ⟨⟨_, rfl, by decide, Or.inl tz_1153⟩, List.forall_mem_cons.mpr ⟨⟨_, rfl, by decide, Or.inl tz_1154⟩, List.forall_mem_cons.mpr ⟨⟨_, rfl, by decide, Or.inl tz_1155⟩, List.forall_mem_cons.mpr ⟨⟨_, rfl, by decide, Or.inl tz_1159⟩, List.forall_mem_cons.mpr ⟨⟨_, rfl, by decide, Or.inl tz_1160⟩, List.forall_mem_cons.mpr ⟨⟨_, rfl, by decide, Or.inl tz_1149⟩, List.forall_mem_cons.mpr ⟨⟨_, rfl, by decide, Or.inl tz_1140⟩, List.forall_mem_cons.mpr ⟨⟨_, rfl, by decide, Or.inl tz_1143⟩, List.forall_mem_cons.mpr ⟨⟨_, rfl, by decide, Or.inl tz_1150⟩, List.forall_mem_cons.mpr ⟨⟨_, rfl, by decide, Or.inl tz_1156⟩, List.forall_mem_cons.mpr ⟨⟨_, rfl, by decide, Or.inl tz_1157⟩, List.forall_mem_cons.mpr ⟨⟨_, rfl, by decide, Or.inl tz_1158⟩, List.forall_mem_cons.mpr ⟨⟨_, rfl, by decide, Or.inl tz_1161⟩, fun _ h => absurd h List.not_mem_nil⟩⟩⟩⟩⟩⟩⟩⟩⟩⟩⟩⟩⟩⟩⟩⟩⟩⟩⟩⟩⟩⟩⟩⟩⟩⟩)
theorem qk_12_2wM : ∀ j q, qw_lk (qw_kc qk_12) j = some q → qw_yc q.2 ∈ qw_tw ∧ Cond.methodLink (qw_kn qk_12) j (qw_yn q.2) ∈ qw_tw ∧ Cond.initialized (qw_yn q.2).cls ∈ qw_tw ∧ ((qw_yn q.2).cls ≠ "java/lang/invoke/MethodHandle" ∧ (qw_yn q.2).cls ≠ "java/lang/invoke/VarHandle" ∧ (parseMethodDescriptor (qw_yn q.2).desc).map (fun d => d.parameters.length) = some (qw_yp q.2)) ∧
    (q.1 = none → Cond.static (qw_yn q.2) ∈ qw_tw) ∧ (∀ ci, q.1 = some ci → Cond.instanceMethod (qw_yn q.2) ∈ qw_tw ∧ Cond.selects (qw_yn q.2).cls (qw_yn q.2) (qw_yn q.2) ∈ qw_tw ∧ ((ci = 13 ∧ (qw_yn q.2).cls = "java/lang/String") ∨ ∃ c, (qw_cl wM)[ci]? = some c ∧ c.1 = (qw_yn q.2).cls)) :=
  qw_all (List.forall_mem_cons.mpr ⟨⟨tz_1225, tz_1223, tz_87, by decide +kernel, fun _ => tz_1224, fun _ h => (by cases h)⟩, List.forall_mem_cons.mpr ⟨⟨tz_1221, tz_1219, tz_87, by decide +kernel, fun _ => tz_1220, fun _ h => (by cases h)⟩, List.forall_mem_cons.mpr ⟨⟨tz_1230, tz_1227, tz_87, by decide +kernel, fun h => (by cases h), fun ci h => (by cases h; exact ⟨tz_1229, tz_26, Or.inr ⟨_, rfl, rfl⟩⟩)⟩, List.forall_mem_cons.mpr ⟨⟨tz_1242, tz_1239, tz_87, by decide +kernel, fun h => (by cases h), fun ci h => (by cases h; exact ⟨tz_1241, tz_27, Or.inr ⟨_, rfl, rfl⟩⟩)⟩, List.forall_mem_cons.mpr ⟨⟨tz_1245, tz_1243, tz_87, by decide +kernel, fun _ => tz_1244, fun _ h => (by cases h)⟩, List.forall_mem_cons.mpr ⟨⟨tz_1261, tz_1259, tz_87, by decide +kernel, fun _ => tz_1260, fun _ h => (by cases h)⟩, List.forall_mem_cons.mpr ⟨⟨tz_1288, tz_1286, tz_87, by decide +kernel, fun _ => tz_1287, fun _ h => (by cases h)⟩, List.forall_mem_cons.mpr ⟨⟨tz_1291, tz_1289, tz_87, by decide +kernel, fun _ => tz_1290, fun _ h => (by cases h)⟩, List.forall_mem_cons.mpr ⟨⟨tz_1285, tz_1283, tz_87, by decide +kernel, fun _ => tz_1284, fun _ h => (by cases h)⟩, List.forall_mem_cons.mpr ⟨⟨tz_1299, tz_1296, tz_87, by decide +kernel, fun h => (by cases h), fun ci h => (by cases h; exact ⟨tz_1298, tz_31, Or.inr ⟨_, rfl, rfl⟩⟩)⟩, List.forall_mem_cons.mpr ⟨⟨tz_1304, tz_1302, tz_87, by decide +kernel, fun _ => tz_1303, fun _ h => (by cases h)⟩, List.forall_mem_cons.mpr ⟨⟨tz_1312, tz_1309, tz_87, by decide +kernel, fun h => (by cases h), fun ci h => (by cases h; exact ⟨tz_1311, tz_33, Or.inr ⟨_, rfl, rfl⟩⟩)⟩, List.forall_mem_cons.mpr ⟨⟨tz_1282, tz_1279, tz_87, by decide +kernel, fun h => (by cases h), fun ci h => (by cases h; exact ⟨tz_1281, tz_29, Or.inr ⟨_, rfl, rfl⟩⟩)⟩, List.forall_mem_cons.mpr ⟨⟨tz_1295, tz_1292, tz_87, by decide +kernel, fun h => (by cases h), fun ci h => (by cases h; exact ⟨tz_1294, tz_30, Or.inr ⟨_, rfl, rfl⟩⟩)⟩, List.forall_mem_cons.mpr ⟨⟨tz_1308, tz_1305, tz_87, by decide +kernel, fun h => (by cases h), fun ci h => (by cases h; exact ⟨tz_1307, tz_32, Or.inr ⟨_, rfl, rfl⟩⟩)⟩, List.forall_mem_cons.mpr ⟨⟨tz_1278, tz_1275, tz_87, by decide +kernel, fun h => (by cases h), fun ci h => (by cases h; exact ⟨tz_1277, tz_28, Or.inr ⟨_, rfl, rfl⟩⟩)⟩, List.forall_mem_cons.mpr ⟨⟨tz_1322, tz_1319, tz_87, by decide +kernel, fun h => (by cases h), fun ci h => (by cases h; exact ⟨tz_1321, tz_34, Or.inr ⟨_, rfl, rfl⟩⟩)⟩, List.forall_mem_cons.mpr ⟨⟨tz_1327, tz_1324, tz_87, by decide +kernel, fun h => (by cases h), fun ci h => (by cases h; exact ⟨tz_1326, tz_35, Or.inr ⟨_, rfl, rfl⟩⟩)⟩, List.forall_mem_cons.mpr ⟨⟨tz_1334, tz_1332, tz_87, by decide +kernel, fun _ => tz_1333, fun _ h => (by cases h)⟩, List.forall_mem_cons.mpr ⟨⟨tz_1338, tz_1336, tz_87, by decide +kernel, fun _ => tz_1337, fun _ h => (by cases h)⟩, List.forall_mem_cons.mpr ⟨⟨tz_1342, tz_1339, tz_87, by decide +kernel, fun h => (by cases h), fun ci h => (by cases h; exact ⟨tz_1341, tz_36, Or.inr ⟨_, rfl, rfl⟩⟩)⟩, List.forall_mem_cons.mpr ⟨⟨tz_1349, tz_1347, tz_87, by decide +kernel, fun _ => tz_1348, fun _ h => (by cases h)⟩, List.forall_mem_cons.mpr ⟨⟨tz_1358, tz_1367, tz_87, by decide +kernel, fun h => (by cases h), fun ci h => (by cases h; exact ⟨tz_1356, tz_1357, Or.inr ⟨_, rfl, rfl⟩⟩)⟩, List.forall_mem_cons.mpr ⟨⟨tz_1389, tz_1387, tz_87, by decide +kernel, fun _ => tz_1388, fun _ h => (by cases h)⟩, List.forall_mem_cons.mpr ⟨⟨tz_1392, tz_1390, tz_87, by decide +kernel, fun _ => tz_1391, fun _ h => (by cases h)⟩, List.forall_mem_cons.mpr ⟨⟨tz_1382, tz_1380, tz_87, by decide +kernel, fun _ => tz_1381, fun _ h => (by cases h)⟩, List.forall_mem_cons.mpr ⟨⟨tz_1386, tz_1383, tz_87, by decide +kernel, fun h => (by cases h), fun ci h => (by cases h; exact ⟨tz_1385, tz_39, Or.inr ⟨_, rfl, rfl⟩⟩)⟩, List.forall_mem_cons.mpr ⟨⟨tz_1396, tz_1393, tz_87, by decide +kernel, fun h => (by cases h), fun ci h => (by cases h; exact ⟨tz_1395, tz_40, Or.inr ⟨_, rfl, rfl⟩⟩)⟩, List.forall_mem_cons.mpr ⟨⟨tz_1379, tz_1376, tz_87, by decide +kernel, fun h => (by cases h), fun ci h => (by cases h; exact ⟨tz_1378, tz_38, Or.inr ⟨_, rfl, rfl⟩⟩)⟩, List.forall_mem_cons.mpr ⟨⟨tz_1408, tz_1405, tz_87, by decide +kernel, fun h => (by cases h), fun ci h => (by cases h; exact ⟨tz_1407, tz_43, Or.inr ⟨_, rfl, rfl⟩⟩)⟩, List.forall_mem_cons.mpr ⟨⟨tz_1404, tz_1401, tz_87, by decide +kernel, fun h => (by cases h), fun ci h => (by cases h; exact ⟨tz_1403, tz_42, Or.inr ⟨_, rfl, rfl⟩⟩)⟩, List.forall_mem_cons.mpr ⟨⟨tz_1375, tz_1372, tz_87, by decide +kernel, fun h => (by cases h), fun ci h => (by cases h; exact ⟨tz_1374, tz_37, Or.inr ⟨_, rfl, rfl⟩⟩)⟩, List.forall_mem_cons.mpr ⟨⟨tz_1400, tz_1397, tz_87, by decide +kernel, fun h => (by cases h), fun ci h => (by cases h; exact ⟨tz_1399, tz_41, Or.inr ⟨_, rfl, rfl⟩⟩)⟩, List.forall_mem_cons.mpr ⟨⟨tz_1416, tz_1413, tz_87, by decide +kernel, fun h => (by cases h), fun ci h => (by cases h; exact ⟨tz_1415, tz_44, Or.inr ⟨_, rfl, rfl⟩⟩)⟩, List.forall_mem_cons.mpr ⟨⟨tz_1424, tz_1421, tz_87, by decide +kernel, fun h => (by cases h), fun ci h => (by cases h; exact ⟨tz_1423, tz_45, Or.inr ⟨_, rfl, rfl⟩⟩)⟩, List.forall_mem_cons.mpr ⟨⟨tz_1432, tz_1429, tz_87, by decide +kernel, fun h => (by cases h), fun ci h => (by cases h; exact ⟨tz_1431, tz_46, Or.inr ⟨_, rfl, rfl⟩⟩)⟩, List.forall_mem_cons.mpr ⟨⟨tz_1436, tz_1433, tz_87, by decide +kernel, fun h => (by cases h), fun ci h => (by cases h; exact ⟨tz_1435, tz_47, Or.inr ⟨_, rfl, rfl⟩⟩)⟩, List.forall_mem_cons.mpr ⟨⟨tz_1452, tz_1449, tz_87, by decide +kernel, fun h => (by cases h), fun ci h => (by cases h; exact ⟨tz_1451, tz_50, Or.inr ⟨_, rfl, rfl⟩⟩)⟩, List.forall_mem_cons.mpr ⟨⟨tz_1448, tz_1445, tz_87, by decide +kernel, fun h => (by cases h), fun ci h => (by cases h; exact ⟨tz_1447, tz_49, Or.inr ⟨_, rfl, rfl⟩⟩)⟩, List.forall_mem_cons.mpr ⟨⟨tz_1444, tz_1441, tz_87, by decide +kernel, fun h => (by cases h), fun ci h => (by cases h; exact ⟨tz_1443, tz_48, Or.inr ⟨_, rfl, rfl⟩⟩)⟩, List.forall_mem_cons.mpr ⟨⟨tz_1464, tz_1461, tz_87, by decide +kernel, fun h => (by cases h), fun ci h => (by cases h; exact ⟨tz_1463, tz_52, Or.inr ⟨_, rfl, rfl⟩⟩)⟩, List.forall_mem_cons.mpr ⟨⟨tz_1460, tz_1457, tz_87, by decide +kernel, fun h => (by cases h), fun ci h => (by cases h; exact ⟨tz_1459, tz_51, Or.inr ⟨_, rfl, rfl⟩⟩)⟩, List.forall_mem_cons.mpr ⟨⟨tz_1472, tz_1469, tz_87, by decide +kernel, fun h => (by cases h), fun ci h => (by cases h; exact ⟨tz_1471, tz_53, Or.inr ⟨_, rfl, rfl⟩⟩)⟩, List.forall_mem_cons.mpr ⟨⟨tz_1480, tz_1477, tz_87, by decide +kernel, fun h => (by cases h), fun ci h => (by cases h; exact ⟨tz_1479, tz_54, Or.inr ⟨_, rfl, rfl⟩⟩)⟩, List.forall_mem_cons.mpr ⟨⟨tz_1488, tz_1485, tz_87, by decide +kernel, fun h => (by cases h), fun ci h => (by cases h; exact ⟨tz_1487, tz_55, Or.inr ⟨_, rfl, rfl⟩⟩)⟩, List.forall_mem_cons.mpr ⟨⟨tz_1501, tz_1498, tz_87, by decide +kernel, fun h => (by cases h), fun ci h => (by cases h; exact ⟨tz_1500, tz_57, Or.inr ⟨_, rfl, rfl⟩⟩)⟩, List.forall_mem_cons.mpr ⟨⟨tz_1497, tz_1494, tz_87, by decide +kernel, fun h => (by cases h), fun ci h => (by cases h; exact ⟨tz_1496, tz_56, Or.inr ⟨_, rfl, rfl⟩⟩)⟩, List.forall_mem_cons.mpr ⟨⟨tz_1513, tz_1510, tz_87, by decide +kernel, fun h => (by cases h), fun ci h => (by cases h; exact ⟨tz_1512, tz_59, Or.inr ⟨_, rfl, rfl⟩⟩)⟩, List.forall_mem_cons.mpr ⟨⟨tz_1509, tz_1506, tz_87, by decide +kernel, fun h => (by cases h), fun ci h => (by cases h; exact ⟨tz_1508, tz_58, Or.inr ⟨_, rfl, rfl⟩⟩)⟩, List.forall_mem_cons.mpr ⟨⟨tz_1534, tz_1531, tz_87, by decide +kernel, fun h => (by cases h), fun ci h => (by cases h; exact ⟨tz_1533, tz_61, Or.inr ⟨_, rfl, rfl⟩⟩)⟩, List.forall_mem_cons.mpr ⟨⟨tz_1530, tz_1527, tz_87, by decide +kernel, fun h => (by cases h), fun ci h => (by cases h; exact ⟨tz_1529, tz_60, Or.inr ⟨_, rfl, rfl⟩⟩)⟩, List.forall_mem_cons.mpr ⟨⟨tz_1546, tz_1543, tz_87, by decide +kernel, fun h => (by cases h), fun ci h => (by cases h; exact ⟨tz_1545, tz_63, Or.inr ⟨_, rfl, rfl⟩⟩)⟩, List.forall_mem_cons.mpr ⟨⟨tz_1550, tz_1547, tz_87, by decide +kernel, fun h => (by cases h), fun ci h => (by cases h; exact ⟨tz_1549, tz_64, Or.inr ⟨_, rfl, rfl⟩⟩)⟩, List.forall_mem_cons.mpr ⟨⟨tz_1542, tz_1539, tz_87, by decide +kernel, fun h => (by cases h), fun ci h => (by cases h; exact ⟨tz_1541, tz_62, Or.inr ⟨_, rfl, rfl⟩⟩)⟩, List.forall_mem_cons.mpr ⟨⟨tz_1558, tz_1555, tz_87, by decide +kernel, fun h => (by cases h), fun ci h => (by cases h; exact ⟨tz_1557, tz_65, Or.inr ⟨_, rfl, rfl⟩⟩)⟩, List.forall_mem_cons.mpr ⟨⟨tz_1570, tz_1568, tz_87, by decide +kernel, fun _ => tz_1569, fun _ h => (by cases h)⟩, List.forall_mem_cons.mpr ⟨⟨tz_1567, tz_1564, tz_87, by decide +kernel, fun h => (by cases h), fun ci h => (by cases h; exact ⟨tz_1566, tz_66, Or.inr ⟨_, rfl, rfl⟩⟩)⟩, List.forall_mem_cons.mpr ⟨⟨tz_1573, tz_1571, tz_87, by decide +kernel, fun _ => tz_1572, fun _ h => (by cases h)⟩, List.forall_mem_cons.mpr ⟨⟨tz_1587, tz_1584, tz_87, by decide +kernel, fun h => (by cases h), fun ci h => (by cases h; exact ⟨tz_1586, tz_68, Or.inr ⟨_, rfl, rfl⟩⟩)⟩, List.forall_mem_cons.mpr ⟨⟨tz_1583, tz_1580, tz_87, by decide +kernel, fun h => (by cases h), fun ci h => (by cases h; exact ⟨tz_1582, tz_67, Or.inr ⟨_, rfl, rfl⟩⟩)⟩, List.forall_mem_cons.mpr ⟨⟨tz_1600, tz_1597, tz_87, by decide +kernel, fun h => (by cases h), fun ci h => (by cases h; exact ⟨tz_1599, tz_69, Or.inr ⟨_, rfl, rfl⟩⟩)⟩, List.forall_mem_cons.mpr ⟨⟨tz_1614, tz_1611, tz_87, by decide +kernel, fun h => (by cases h), fun ci h => (by cases h; exact ⟨tz_1613, tz_71, Or.inr ⟨_, rfl, rfl⟩⟩)⟩, List.forall_mem_cons.mpr ⟨⟨tz_1596, tz_1606, tz_87, by decide +kernel, fun h => (by cases h), fun ci h => (by cases h; exact ⟨tz_1594, tz_1595, Or.inr ⟨_, rfl, rfl⟩⟩)⟩, List.forall_mem_cons.mpr ⟨⟨tz_1610, tz_1607, tz_87, by decide +kernel, fun h => (by cases h), fun ci h => (by cases h; exact ⟨tz_1609, tz_70, Or.inr ⟨_, rfl, rfl⟩⟩)⟩, List.forall_mem_cons.mpr ⟨⟨tz_1618, tz_1615, tz_87, by decide +kernel, fun h => (by cases h), fun ci h => (by cases h; exact ⟨tz_1617, tz_72, Or.inr ⟨_, rfl, rfl⟩⟩)⟩, fun _ h => absurd h List.not_mem_nil⟩⟩⟩⟩⟩⟩⟩⟩⟩⟩⟩⟩⟩⟩⟩⟩⟩⟩⟩⟩⟩⟩⟩⟩⟩⟩⟩⟩⟩⟩⟩⟩⟩⟩⟩⟩⟩⟩⟩⟩⟩⟩⟩⟩⟩⟩⟩⟩⟩⟩⟩⟩⟩⟩⟩⟩⟩⟩⟩⟩⟩⟩⟩⟩⟩)
theorem qk_12_wM : qw_ok qw_tw wM qk_12 := ⟨qw_tw_good, wM_wf, wM_cok, wM_tok, qk_12_1wM, qk_12_2wM, qw_all (List.forall_mem_cons.mpr ⟨tz_1250, List.forall_mem_cons.mpr ⟨tz_1588, fun _ h => absurd h List.not_mem_nil⟩⟩), qw_all (List.forall_mem_cons.mpr ⟨tz_1574, List.forall_mem_cons.mpr ⟨tz_1222, List.forall_mem_cons.mpr ⟨tz_1226, List.forall_mem_cons.mpr ⟨tz_1262, List.forall_mem_cons.mpr ⟨tz_1300, List.forall_mem_cons.mpr ⟨tz_1301, List.forall_mem_cons.mpr ⟨tz_1313, List.forall_mem_cons.mpr ⟨tz_1314, List.forall_mem_cons.mpr ⟨tz_1335, List.forall_mem_cons.mpr ⟨tz_1350, List.forall_mem_cons.mpr ⟨tz_1323, List.forall_mem_cons.mpr ⟨tz_1493, List.forall_mem_cons.mpr ⟨tz_1518, List.forall_mem_cons.mpr ⟨tz_1563, List.forall_mem_cons.mpr ⟨tz_1579, List.forall_mem_cons.mpr ⟨tz_1605, fun _ h => absurd h List.not_mem_nil⟩⟩⟩⟩⟩⟩⟩⟩⟩⟩⟩⟩⟩⟩⟩⟩), fun j q z h => (by cases h), fun j h => (qw_ka0 h).elim, qw_all (fun _ h => absurd h List.not_mem_nil), qw_all (fun _ h => absurd h List.not_mem_nil)⟩
def qk_Integer : qw_K := ("java/lang/Integer", [], [], [(265, 1431655765), (266, 858993459), (267, 252645135)], [], [], [], 0, [])
theorem qk_Integer_1wC : ∀ j q, qw_lk (qw_kf qk_Integer) j = some q → ∃ c, (qw_cl wC)[q.1]? = some c ∧ q.2 < c.2.2 ∧ (Cond.fieldLink (qw_kn qk_Integer) j (c.2.1 q.2).1 (c.2.1 q.2).2.1 (c.2.1 q.2).2.2.1 ∈ qw_tw ∨ ∃ host, (qw_kn qk_Integer, j, (c.2.1 q.2).1, (c.2.1 q.2).2.1, (c.2.1 q.2).2.2.1, host) ∈ qw_nst wC) :=
  qw_all (fun _ h => absurd h List.not_mem_nil)
theorem qk_Integer_2wC : ∀ j q, qw_lk (qw_kc qk_Integer) j = some q → qw_yc q.2 ∈ qw_tw ∧ Cond.methodLink (qw_kn qk_Integer) j (qw_yn q.2) ∈ qw_tw ∧ Cond.initialized (qw_yn q.2).cls ∈ qw_tw ∧ ((qw_yn q.2).cls ≠ "java/lang/invoke/MethodHandle" ∧ (qw_yn q.2).cls ≠ "java/lang/invoke/VarHandle" ∧ (parseMethodDescriptor (qw_yn q.2).desc).map (fun d => d.parameters.length) = some (qw_yp q.2)) ∧
    (q.1 = none → Cond.static (qw_yn q.2) ∈ qw_tw) ∧ (∀ ci, q.1 = some ci → Cond.instanceMethod (qw_yn q.2) ∈ qw_tw ∧ Cond.selects (qw_yn q.2).cls (qw_yn q.2) (qw_yn q.2) ∈ qw_tw ∧ ((ci = 13 ∧ (qw_yn q.2).cls = "java/lang/String") ∨ ∃ c, (qw_cl wC)[ci]? = some c ∧ c.1 = (qw_yn q.2).cls)) :=
  qw_all (fun _ h => absurd h List.not_mem_nil)
theorem qk_Integer_wC : qw_ok qw_tw wC qk_Integer := ⟨qw_tw_good, wC_wf, wC_cok, wC_tok, qk_Integer_1wC, qk_Integer_2wC, qw_all (List.forall_mem_cons.mpr ⟨tz_751, List.forall_mem_cons.mpr ⟨tz_752, List.forall_mem_cons.mpr ⟨tz_753, fun _ h => absurd h List.not_mem_nil⟩⟩⟩), qw_all (fun _ h => absurd h List.not_mem_nil), fun j q z h => (by cases h), fun j h => (qw_ka0 h).elim, qw_all (fun _ h => absurd h List.not_mem_nil), qw_all (fun _ h => absurd h List.not_mem_nil)⟩
def qk_Math : qw_K := ("java/lang/Math", [], [], [], [], [], [], 0, [])
theorem qk_Math_1wC : ∀ j q, qw_lk (qw_kf qk_Math) j = some q → ∃ c, (qw_cl wC)[q.1]? = some c ∧ q.2 < c.2.2 ∧ (Cond.fieldLink (qw_kn qk_Math) j (c.2.1 q.2).1 (c.2.1 q.2).2.1 (c.2.1 q.2).2.2.1 ∈ qw_tw ∨ ∃ host, (qw_kn qk_Math, j, (c.2.1 q.2).1, (c.2.1 q.2).2.1, (c.2.1 q.2).2.2.1, host) ∈ qw_nst wC) :=
  qw_all (fun _ h => absurd h List.not_mem_nil)
theorem qk_Math_2wC : ∀ j q, qw_lk (qw_kc qk_Math) j = some q → qw_yc q.2 ∈ qw_tw ∧ Cond.methodLink (qw_kn qk_Math) j (qw_yn q.2) ∈ qw_tw ∧ Cond.initialized (qw_yn q.2).cls ∈ qw_tw ∧ ((qw_yn q.2).cls ≠ "java/lang/invoke/MethodHandle" ∧ (qw_yn q.2).cls ≠ "java/lang/invoke/VarHandle" ∧ (parseMethodDescriptor (qw_yn q.2).desc).map (fun d => d.parameters.length) = some (qw_yp q.2)) ∧
    (q.1 = none → Cond.static (qw_yn q.2) ∈ qw_tw) ∧ (∀ ci, q.1 = some ci → Cond.instanceMethod (qw_yn q.2) ∈ qw_tw ∧ Cond.selects (qw_yn q.2).cls (qw_yn q.2) (qw_yn q.2) ∈ qw_tw ∧ ((ci = 13 ∧ (qw_yn q.2).cls = "java/lang/String") ∨ ∃ c, (qw_cl wC)[ci]? = some c ∧ c.1 = (qw_yn q.2).cls)) :=
  qw_all (fun _ h => absurd h List.not_mem_nil)
theorem qk_Math_wC : qw_ok qw_tw wC qk_Math := ⟨qw_tw_good, wC_wf, wC_cok, wC_tok, qk_Math_1wC, qk_Math_2wC, qw_all (fun _ h => absurd h List.not_mem_nil), qw_all (fun _ h => absurd h List.not_mem_nil), fun j q z h => (by cases h), fun j h => (qw_ka0 h).elim, qw_all (fun _ h => absurd h List.not_mem_nil), qw_all (fun _ h => absurd h List.not_mem_nil)⟩
def qk_String : qw_K := ("java/lang/String", [], [(335, some 13, my_J0_coder), (492, some 13, my_J0_isLatin1), (505, some 13, my_J0_length), (633, some 13, my_J0_indexOf_III), (637, none, my_J1_indexOf)], [], [], [], [(38, 0)], 0, [(15, 1), (9, 0)])
theorem qk_String_1wC : ∀ j q, qw_lk (qw_kf qk_String) j = some q → ∃ c, (qw_cl wC)[q.1]? = some c ∧ q.2 < c.2.2 ∧ (Cond.fieldLink (qw_kn qk_String) j (c.2.1 q.2).1 (c.2.1 q.2).2.1 (c.2.1 q.2).2.2.1 ∈ qw_tw ∨ ∃ host, (qw_kn qk_String, j, (c.2.1 q.2).1, (c.2.1 q.2).2.1, (c.2.1 q.2).2.2.1, host) ∈ qw_nst wC) :=
  qw_all (fun _ h => absurd h List.not_mem_nil)
theorem qk_String_2wC : ∀ j q, qw_lk (qw_kc qk_String) j = some q → qw_yc q.2 ∈ qw_tw ∧ Cond.methodLink (qw_kn qk_String) j (qw_yn q.2) ∈ qw_tw ∧ Cond.initialized (qw_yn q.2).cls ∈ qw_tw ∧ ((qw_yn q.2).cls ≠ "java/lang/invoke/MethodHandle" ∧ (qw_yn q.2).cls ≠ "java/lang/invoke/VarHandle" ∧ (parseMethodDescriptor (qw_yn q.2).desc).map (fun d => d.parameters.length) = some (qw_yp q.2)) ∧
    (q.1 = none → Cond.static (qw_yn q.2) ∈ qw_tw) ∧ (∀ ci, q.1 = some ci → Cond.instanceMethod (qw_yn q.2) ∈ qw_tw ∧ Cond.selects (qw_yn q.2).cls (qw_yn q.2) (qw_yn q.2) ∈ qw_tw ∧ ((ci = 13 ∧ (qw_yn q.2).cls = "java/lang/String") ∨ ∃ c, (qw_cl wC)[ci]? = some c ∧ c.1 = (qw_yn q.2).cls)) :=
  qw_all (List.forall_mem_cons.mpr ⟨⟨tz_488, tz_485, tz_88, by decide +kernel, fun h => (by cases h), fun ci h => (by cases h; exact ⟨tz_486, tz_487, Or.inl ⟨rfl, rfl⟩⟩)⟩, List.forall_mem_cons.mpr ⟨⟨tz_478, tz_475, tz_88, by decide +kernel, fun h => (by cases h), fun ci h => (by cases h; exact ⟨tz_476, tz_477, Or.inl ⟨rfl, rfl⟩⟩)⟩, List.forall_mem_cons.mpr ⟨⟨tz_484, tz_481, tz_88, by decide +kernel, fun h => (by cases h), fun ci h => (by cases h; exact ⟨tz_482, tz_483, Or.inl ⟨rfl, rfl⟩⟩)⟩, List.forall_mem_cons.mpr ⟨⟨tz_474, tz_471, tz_88, by decide +kernel, fun h => (by cases h), fun ci h => (by cases h; exact ⟨tz_472, tz_473, Or.inl ⟨rfl, rfl⟩⟩)⟩, List.forall_mem_cons.mpr ⟨⟨tz_491, tz_489, tz_89, by decide +kernel, fun _ => tz_490, fun _ h => (by cases h)⟩, fun _ h => absurd h List.not_mem_nil⟩⟩⟩⟩⟩)
theorem qk_String_wC : qw_ok qw_tw wC qk_String := ⟨qw_tw_good, wC_wf, wC_cok, wC_tok, qk_String_1wC, qk_String_2wC, qw_all (fun _ h => absurd h List.not_mem_nil), qw_all (fun _ h => absurd h List.not_mem_nil), fun j q z h h2 => (by
    revert h2
    exact qw_all (P := fun j q => (qw_sta wC)[q]? = some z → Cond.fieldLink (qw_kn qk_String) j z.1 z.2.1 z.2.2.1 ∈ qw_tw) (List.forall_mem_cons.mpr ⟨fun h2 => (by cases h2; exact tz_479), fun _ h => absurd h List.not_mem_nil⟩) j q h), fun j h => (qw_ka0 h).elim, qw_all (fun _ h => absurd h List.not_mem_nil), qw_all (List.forall_mem_cons.mpr ⟨⟨fun h => absurd h (by decide), fun _ => tz_1619⟩, List.forall_mem_cons.mpr ⟨⟨fun _ => tz_1620, fun h => absurd h (by decide)⟩, fun _ h => absurd h List.not_mem_nil⟩⟩)⟩
def qk_StringLatin1 : qw_K := ("java/lang/StringLatin1", [], [(38, none, my_J9_min), (88, none, my_J1_canEncode), (92, none, my_J9_max), (95, none, my_J1_indexOfChar)], [], [], [], [], 0, [])
theorem qk_StringLatin1_1wC : ∀ j q, qw_lk (qw_kf qk_StringLatin1) j = some q → ∃ c, (qw_cl wC)[q.1]? = some c ∧ q.2 < c.2.2 ∧ (Cond.fieldLink (qw_kn qk_StringLatin1) j (c.2.1 q.2).1 (c.2.1 q.2).2.1 (c.2.1 q.2).2.2.1 ∈ qw_tw ∨ ∃ host, (qw_kn qk_StringLatin1, j, (c.2.1 q.2).1, (c.2.1 q.2).2.1, (c.2.1 q.2).2.2.1, host) ∈ qw_nst wC) :=
  qw_all (fun _ h => absurd h List.not_mem_nil)
theorem qk_StringLatin1_2wC : ∀ j q, qw_lk (qw_kc qk_StringLatin1) j = some q → qw_yc q.2 ∈ qw_tw ∧ Cond.methodLink (qw_kn qk_StringLatin1) j (qw_yn q.2) ∈ qw_tw ∧ Cond.initialized (qw_yn q.2).cls ∈ qw_tw ∧ ((qw_yn q.2).cls ≠ "java/lang/invoke/MethodHandle" ∧ (qw_yn q.2).cls ≠ "java/lang/invoke/VarHandle" ∧ (parseMethodDescriptor (qw_yn q.2).desc).map (fun d => d.parameters.length) = some (qw_yp q.2)) ∧
    (q.1 = none → Cond.static (qw_yn q.2) ∈ qw_tw) ∧ (∀ ci, q.1 = some ci → Cond.instanceMethod (qw_yn q.2) ∈ qw_tw ∧ Cond.selects (qw_yn q.2).cls (qw_yn q.2) (qw_yn q.2) ∈ qw_tw ∧ ((ci = 13 ∧ (qw_yn q.2).cls = "java/lang/String") ∨ ∃ c, (qw_cl wC)[ci]? = some c ∧ c.1 = (qw_yn q.2).cls)) :=
  qw_all (List.forall_mem_cons.mpr ⟨⟨tz_498, tz_496, tz_76, by decide +kernel, fun _ => tz_497, fun _ h => (by cases h)⟩, List.forall_mem_cons.mpr ⟨⟨tz_494, tz_492, tz_89, by decide +kernel, fun _ => tz_493, fun _ h => (by cases h)⟩, List.forall_mem_cons.mpr ⟨⟨tz_111, tz_495, tz_76, by decide +kernel, fun _ => tz_110, fun _ h => (by cases h)⟩, List.forall_mem_cons.mpr ⟨⟨tz_501, tz_499, tz_89, by decide +kernel, fun _ => tz_500, fun _ h => (by cases h)⟩, fun _ h => absurd h List.not_mem_nil⟩⟩⟩⟩)
theorem qk_StringLatin1_wC : qw_ok qw_tw wC qk_StringLatin1 := ⟨qw_tw_good, wC_wf, wC_cok, wC_tok, qk_StringLatin1_1wC, qk_StringLatin1_2wC, qw_all (fun _ h => absurd h List.not_mem_nil), qw_all (fun _ h => absurd h List.not_mem_nil), fun j q z h => (by cases h), fun j h => (qw_ka0 h).elim, qw_all (fun _ h => absurd h List.not_mem_nil), qw_all (fun _ h => absurd h List.not_mem_nil)⟩
end
section
/-! METHODS: each with its own start and its runs -/
abbrev E_J0_coder (Q : Option Value → qw_M → Prop) := qw_Ev qw_tw wC qk_String my_J0_coder Q
theorem ev_J0_coder {Q : Option Value → qw_M → Prop} {pc : Nat} {ls : qw_L} {st : List Value} {σ : qw_M} (cut : List Nat) (N : Nat) (h : qw_run qw_tw wC qk_String my_J0_coder cd_J0_coder cut Q (E_J0_coder Q) N pc (qw_find cd_J0_coder pc) ls st σ) : E_J0_coder Q pc ls st σ := qw_runs qk_String_wC co_J0_coder N pc _ ls st σ (fun _ h => qw_find_mem h) h
theorem mt_J0_coder {Q : Option Value → qw_M → Prop} {av : List Value} {σ : qw_M} (hn : Nat.ble (lg_sl av).length 1 = true) (h : E_J0_coder Q 0 (lv_args 0 av) [] σ) : qw_Mt qw_tw wC my_J0_coder av σ Q := qw_Mt.of rfl (by decide +kernel) hn h
abbrev E_J0_indexOf (Q : Option Value → qw_M → Prop) := qw_Ev qw_tw wC qk_String my_J0_indexOf Q
theorem ev_J0_indexOf {Q : Option Value → qw_M → Prop} {pc : Nat} {ls : qw_L} {st : List Value} {σ : qw_M} (cut : List Nat) (N : Nat) (h : qw_run qw_tw wC qk_String my_J0_indexOf cd_J0_indexOf cut Q (E_J0_indexOf Q) N pc (qw_find cd_J0_indexOf pc) ls st σ) : E_J0_indexOf Q pc ls st σ := qw_runs qk_String_wC co_J0_indexOf N pc _ ls st σ (fun _ h => qw_find_mem h) h
theorem mt_J0_indexOf {Q : Option Value → qw_M → Prop} {av : List Value} {σ : qw_M} (hn : Nat.ble (lg_sl av).length 2 = true) (h : E_J0_indexOf Q 0 (lv_args 0 av) [] σ) : qw_Mt qw_tw wC my_J0_indexOf av σ Q := qw_Mt.of rfl (by decide +kernel) hn h
abbrev E_J0_indexOf_III (Q : Option Value → qw_M → Prop) := qw_Ev qw_tw wC qk_String my_J0_indexOf_III Q
theorem ev_J0_indexOf_III {Q : Option Value → qw_M → Prop} {pc : Nat} {ls : qw_L} {st : List Value} {σ : qw_M} (cut : List Nat) (N : Nat) (h : qw_run qw_tw wC qk_String my_J0_indexOf_III cd_J0_indexOf_III cut Q (E_J0_indexOf_III Q) N pc (qw_find cd_J0_indexOf_III pc) ls st σ) : E_J0_indexOf_III Q pc ls st σ := qw_runs qk_String_wC co_J0_indexOf_III N pc _ ls st σ (fun _ h => qw_find_mem h) h
theorem mt_J0_indexOf_III {Q : Option Value → qw_M → Prop} {av : List Value} {σ : qw_M} (hn : Nat.ble (lg_sl av).length 3 = true) (h : E_J0_indexOf_III Q 0 (lv_args 0 av) [] σ) : qw_Mt qw_tw wC my_J0_indexOf_III av σ Q := qw_Mt.of rfl (by decide +kernel) hn h
abbrev E_J0_isLatin1 (Q : Option Value → qw_M → Prop) := qw_Ev qw_tw wC qk_String my_J0_isLatin1 Q
theorem ev_J0_isLatin1 {Q : Option Value → qw_M → Prop} {pc : Nat} {ls : qw_L} {st : List Value} {σ : qw_M} (cut : List Nat) (N : Nat) (h : qw_run qw_tw wC qk_String my_J0_isLatin1 cd_J0_isLatin1 cut Q (E_J0_isLatin1 Q) N pc (qw_find cd_J0_isLatin1 pc) ls st σ) : E_J0_isLatin1 Q pc ls st σ := qw_runs qk_String_wC co_J0_isLatin1 N pc _ ls st σ (fun _ h => qw_find_mem h) h
theorem mt_J0_isLatin1 {Q : Option Value → qw_M → Prop} {av : List Value} {σ : qw_M} (hn : Nat.ble (lg_sl av).length 1 = true) (h : E_J0_isLatin1 Q 0 (lv_args 0 av) [] σ) : qw_Mt qw_tw wC my_J0_isLatin1 av σ Q := qw_Mt.of rfl (by decide +kernel) hn h
abbrev E_J0_length (Q : Option Value → qw_M → Prop) := qw_Ev qw_tw wC qk_String my_J0_length Q
theorem ev_J0_length {Q : Option Value → qw_M → Prop} {pc : Nat} {ls : qw_L} {st : List Value} {σ : qw_M} (cut : List Nat) (N : Nat) (h : qw_run qw_tw wC qk_String my_J0_length cd_J0_length cut Q (E_J0_length Q) N pc (qw_find cd_J0_length pc) ls st σ) : E_J0_length Q pc ls st σ := qw_runs qk_String_wC co_J0_length N pc _ ls st σ (fun _ h => qw_find_mem h) h
theorem mt_J0_length {Q : Option Value → qw_M → Prop} {av : List Value} {σ : qw_M} (hn : Nat.ble (lg_sl av).length 1 = true) (h : E_J0_length Q 0 (lv_args 0 av) [] σ) : qw_Mt qw_tw wC my_J0_length av σ Q := qw_Mt.of rfl (by decide +kernel) hn h
abbrev E_J1_canEncode (Q : Option Value → qw_M → Prop) := qw_Ev qw_tw wC qk_StringLatin1 my_J1_canEncode Q
theorem ev_J1_canEncode {Q : Option Value → qw_M → Prop} {pc : Nat} {ls : qw_L} {st : List Value} {σ : qw_M} (cut : List Nat) (N : Nat) (h : qw_run qw_tw wC qk_StringLatin1 my_J1_canEncode cd_J1_canEncode cut Q (E_J1_canEncode Q) N pc (qw_find cd_J1_canEncode pc) ls st σ) : E_J1_canEncode Q pc ls st σ := qw_runs qk_StringLatin1_wC co_J1_canEncode N pc _ ls st σ (fun _ h => qw_find_mem h) h
theorem mt_J1_canEncode {Q : Option Value → qw_M → Prop} {av : List Value} {σ : qw_M} (hn : Nat.ble (lg_sl av).length 1 = true) (h : E_J1_canEncode Q 0 (lv_args 0 av) [] σ) : qw_Mt qw_tw wC my_J1_canEncode av σ Q := qw_Mt.of rfl (by decide +kernel) hn h
abbrev E_J1_indexOf (Q : Option Value → qw_M → Prop) := qw_Ev qw_tw wC qk_StringLatin1 my_J1_indexOf Q
theorem ev_J1_indexOf {Q : Option Value → qw_M → Prop} {pc : Nat} {ls : qw_L} {st : List Value} {σ : qw_M} (cut : List Nat) (N : Nat) (h : qw_run qw_tw wC qk_StringLatin1 my_J1_indexOf cd_J1_indexOf cut Q (E_J1_indexOf Q) N pc (qw_find cd_J1_indexOf pc) ls st σ) : E_J1_indexOf Q pc ls st σ := qw_runs qk_StringLatin1_wC co_J1_indexOf N pc _ ls st σ (fun _ h => qw_find_mem h) h
theorem mt_J1_indexOf {Q : Option Value → qw_M → Prop} {av : List Value} {σ : qw_M} (hn : Nat.ble (lg_sl av).length 4 = true) (h : E_J1_indexOf Q 0 (lv_args 0 av) [] σ) : qw_Mt qw_tw wC my_J1_indexOf av σ Q := qw_Mt.of rfl (by decide +kernel) hn h
abbrev E_J1_indexOfChar (Q : Option Value → qw_M → Prop) := qw_Ev qw_tw wC qk_StringLatin1 my_J1_indexOfChar Q
theorem ev_J1_indexOfChar {Q : Option Value → qw_M → Prop} {pc : Nat} {ls : qw_L} {st : List Value} {σ : qw_M} (cut : List Nat) (N : Nat) (h : qw_run qw_tw wC qk_StringLatin1 my_J1_indexOfChar cd_J1_indexOfChar cut Q (E_J1_indexOfChar Q) N pc (qw_find cd_J1_indexOfChar pc) ls st σ) : E_J1_indexOfChar Q pc ls st σ := qw_runs qk_StringLatin1_wC co_J1_indexOfChar N pc _ ls st σ (fun _ h => qw_find_mem h) h
theorem mt_J1_indexOfChar {Q : Option Value → qw_M → Prop} {av : List Value} {σ : qw_M} (hn : Nat.ble (lg_sl av).length 6 = true) (h : E_J1_indexOfChar Q 0 (lv_args 0 av) [] σ) : qw_Mt qw_tw wC my_J1_indexOfChar av σ Q := qw_Mt.of rfl (by decide +kernel) hn h
abbrev E_J6_bitCount (Q : Option Value → qw_M → Prop) := qw_Ev qw_tw wC qk_Integer my_J6_bitCount Q
theorem ev_J6_bitCount {Q : Option Value → qw_M → Prop} {pc : Nat} {ls : qw_L} {st : List Value} {σ : qw_M} (cut : List Nat) (N : Nat) (h : qw_run qw_tw wC qk_Integer my_J6_bitCount cd_J6_bitCount cut Q (E_J6_bitCount Q) N pc (qw_find cd_J6_bitCount pc) ls st σ) : E_J6_bitCount Q pc ls st σ := qw_runs qk_Integer_wC co_J6_bitCount N pc _ ls st σ (fun _ h => qw_find_mem h) h
theorem mt_J6_bitCount {Q : Option Value → qw_M → Prop} {av : List Value} {σ : qw_M} (hn : Nat.ble (lg_sl av).length 1 = true) (h : E_J6_bitCount Q 0 (lv_args 0 av) [] σ) : qw_Mt qw_tw wC my_J6_bitCount av σ Q := qw_Mt.of rfl (by decide +kernel) hn h
abbrev E_J9_max (Q : Option Value → qw_M → Prop) := qw_Ev qw_tw wC qk_Math my_J9_max Q
theorem ev_J9_max {Q : Option Value → qw_M → Prop} {pc : Nat} {ls : qw_L} {st : List Value} {σ : qw_M} (cut : List Nat) (N : Nat) (h : qw_run qw_tw wC qk_Math my_J9_max cd_J9_max cut Q (E_J9_max Q) N pc (qw_find cd_J9_max pc) ls st σ) : E_J9_max Q pc ls st σ := qw_runs qk_Math_wC co_J9_max N pc _ ls st σ (fun _ h => qw_find_mem h) h
theorem mt_J9_max {Q : Option Value → qw_M → Prop} {av : List Value} {σ : qw_M} (hn : Nat.ble (lg_sl av).length 2 = true) (h : E_J9_max Q 0 (lv_args 0 av) [] σ) : qw_Mt qw_tw wC my_J9_max av σ Q := qw_Mt.of rfl (by decide +kernel) hn h
abbrev E_J9_min (Q : Option Value → qw_M → Prop) := qw_Ev qw_tw wC qk_Math my_J9_min Q
theorem ev_J9_min {Q : Option Value → qw_M → Prop} {pc : Nat} {ls : qw_L} {st : List Value} {σ : qw_M} (cut : List Nat) (N : Nat) (h : qw_run qw_tw wC qk_Math my_J9_min cd_J9_min cut Q (E_J9_min Q) N pc (qw_find cd_J9_min pc) ls st σ) : E_J9_min Q pc ls st σ := qw_runs qk_Math_wC co_J9_min N pc _ ls st σ (fun _ h => qw_find_mem h) h
theorem mt_J9_min {Q : Option Value → qw_M → Prop} {av : List Value} {σ : qw_M} (hn : Nat.ble (lg_sl av).length 2 = true) (h : E_J9_min Q 0 (lv_args 0 av) [] σ) : qw_Mt qw_tw wC my_J9_min av σ Q := qw_Mt.of rfl (by decide +kernel) hn h
abbrev E_X0_draw (Q : Option Value → qw_M → Prop) := qw_Ev qw_tw wC qk_0 my_X0_draw Q
theorem ev_X0_draw {Q : Option Value → qw_M → Prop} {pc : Nat} {ls : qw_L} {st : List Value} {σ : qw_M} (cut : List Nat) (N : Nat) (h : qw_run qw_tw wC qk_0 my_X0_draw cd_X0_draw cut Q (E_X0_draw Q) N pc (qw_find cd_X0_draw pc) ls st σ) : E_X0_draw Q pc ls st σ := qw_runs qk_0_wC co_X0_draw N pc _ ls st σ (fun _ h => qw_find_mem h) h
theorem mt_X0_draw {Q : Option Value → qw_M → Prop} {av : List Value} {σ : qw_M} (hn : Nat.ble (lg_sl av).length 7 = true) (h : E_X0_draw Q 0 (lv_args 0 av) [] σ) : qw_Mt qw_tw wC my_X0_draw av σ Q := qw_Mt.of rfl (by decide +kernel) hn h
abbrev E_X0_looseSteps (Q : Option Value → qw_M → Prop) := qw_Ev qw_tw wC qk_0 my_X0_looseSteps Q
theorem ev_X0_looseSteps {Q : Option Value → qw_M → Prop} {pc : Nat} {ls : qw_L} {st : List Value} {σ : qw_M} (cut : List Nat) (N : Nat) (h : qw_run qw_tw wC qk_0 my_X0_looseSteps cd_X0_looseSteps cut Q (E_X0_looseSteps Q) N pc (qw_find cd_X0_looseSteps pc) ls st σ) : E_X0_looseSteps Q pc ls st σ := qw_runs qk_0_wC co_X0_looseSteps N pc _ ls st σ (fun _ h => qw_find_mem h) h
theorem mt_X0_looseSteps {Q : Option Value → qw_M → Prop} {av : List Value} {σ : qw_M} (hn : Nat.ble (lg_sl av).length 4 = true) (h : E_X0_looseSteps Q 0 (lv_args 0 av) [] σ) : qw_Mt qw_tw wC my_X0_looseSteps av σ Q := qw_Mt.of rfl (by decide +kernel) hn h
abbrev E_X0_lowerTerms (Q : Option Value → qw_M → Prop) := qw_Ev qw_tw wC qk_0 my_X0_lowerTerms Q
theorem ev_X0_lowerTerms {Q : Option Value → qw_M → Prop} {pc : Nat} {ls : qw_L} {st : List Value} {σ : qw_M} (cut : List Nat) (N : Nat) (h : qw_run qw_tw wC qk_0 my_X0_lowerTerms cd_X0_lowerTerms cut Q (E_X0_lowerTerms Q) N pc (qw_find cd_X0_lowerTerms pc) ls st σ) : E_X0_lowerTerms Q pc ls st σ := qw_runs qk_0_wC co_X0_lowerTerms N pc _ ls st σ (fun _ h => qw_find_mem h) h
theorem mt_X0_lowerTerms {Q : Option Value → qw_M → Prop} {av : List Value} {σ : qw_M} (hn : Nat.ble (lg_sl av).length 2 = true) (h : E_X0_lowerTerms Q 0 (lv_args 0 av) [] σ) : qw_Mt qw_tw wC my_X0_lowerTerms av σ Q := qw_Mt.of rfl (by decide +kernel) hn h
abbrev E_X0_next (Q : Option Value → qw_M → Prop) := qw_Ev qw_tw wC qk_0 my_X0_next Q
theorem ev_X0_next {Q : Option Value → qw_M → Prop} {pc : Nat} {ls : qw_L} {st : List Value} {σ : qw_M} (cut : List Nat) (N : Nat) (h : qw_run qw_tw wC qk_0 my_X0_next cd_X0_next cut Q (E_X0_next Q) N pc (qw_find cd_X0_next pc) ls st σ) : E_X0_next Q pc ls st σ := qw_runs qk_0_wC co_X0_next N pc _ ls st σ (fun _ h => qw_find_mem h) h
theorem mt_X0_next {Q : Option Value → qw_M → Prop} {av : List Value} {σ : qw_M} (hn : Nat.ble (lg_sl av).length 1 = true) (h : E_X0_next Q 0 (lv_args 0 av) [] σ) : qw_Mt qw_tw wC my_X0_next av σ Q := qw_Mt.of rfl (by decide +kernel) hn h
abbrev E_X0_playOut (Q : Option Value → qw_M → Prop) := qw_Ev qw_tw wC qk_0 my_X0_playOut Q
theorem ev_X0_playOut {Q : Option Value → qw_M → Prop} {pc : Nat} {ls : qw_L} {st : List Value} {σ : qw_M} (cut : List Nat) (N : Nat) (h : qw_run qw_tw wC qk_0 my_X0_playOut cd_X0_playOut cut Q (E_X0_playOut Q) N pc (qw_find cd_X0_playOut pc) ls st σ) : E_X0_playOut Q pc ls st σ := qw_runs qk_0_wC co_X0_playOut N pc _ ls st σ (fun _ h => qw_find_mem h) h
theorem mt_X0_playOut {Q : Option Value → qw_M → Prop} {av : List Value} {σ : qw_M} (hn : Nat.ble (lg_sl av).length 5 = true) (h : E_X0_playOut Q 0 (lv_args 0 av) [] σ) : qw_Mt qw_tw wC my_X0_playOut av σ Q := qw_Mt.of rfl (by decide +kernel) hn h
abbrev E_X0_power (Q : Option Value → qw_M → Prop) := qw_Ev qw_tw wC qk_0 my_X0_power Q
theorem ev_X0_power {Q : Option Value → qw_M → Prop} {pc : Nat} {ls : qw_L} {st : List Value} {σ : qw_M} (cut : List Nat) (N : Nat) (h : qw_run qw_tw wC qk_0 my_X0_power cd_X0_power cut Q (E_X0_power Q) N pc (qw_find cd_X0_power pc) ls st σ) : E_X0_power Q pc ls st σ := qw_runs qk_0_wC co_X0_power N pc _ ls st σ (fun _ h => qw_find_mem h) h
theorem mt_X0_power {Q : Option Value → qw_M → Prop} {av : List Value} {σ : qw_M} (hn : Nat.ble (lg_sl av).length 5 = true) (h : E_X0_power Q 0 (lv_args 0 av) [] σ) : qw_Mt qw_tw wC my_X0_power av σ Q := qw_Mt.of rfl (by decide +kernel) hn h
abbrev E_X0_reckon (Q : Option Value → qw_M → Prop) := qw_Ev qw_tw wC qk_0 my_X0_reckon Q
theorem ev_X0_reckon {Q : Option Value → qw_M → Prop} {pc : Nat} {ls : qw_L} {st : List Value} {σ : qw_M} (cut : List Nat) (N : Nat) (h : qw_run qw_tw wC qk_0 my_X0_reckon cd_X0_reckon cut Q (E_X0_reckon Q) N pc (qw_find cd_X0_reckon pc) ls st σ) : E_X0_reckon Q pc ls st σ := qw_runs qk_0_wC co_X0_reckon N pc _ ls st σ (fun _ h => qw_find_mem h) h
theorem mt_X0_reckon {Q : Option Value → qw_M → Prop} {av : List Value} {σ : qw_M} (hn : Nat.ble (lg_sl av).length 6 = true) (h : E_X0_reckon Q 0 (lv_args 0 av) [] σ) : qw_Mt qw_tw wC my_X0_reckon av σ Q := qw_Mt.of rfl (by decide +kernel) hn h
abbrev E_X0_waysShown (Q : Option Value → qw_M → Prop) := qw_Ev qw_tw wC qk_0 my_X0_waysShown Q
theorem ev_X0_waysShown {Q : Option Value → qw_M → Prop} {pc : Nat} {ls : qw_L} {st : List Value} {σ : qw_M} (cut : List Nat) (N : Nat) (h : qw_run qw_tw wC qk_0 my_X0_waysShown cd_X0_waysShown cut Q (E_X0_waysShown Q) N pc (qw_find cd_X0_waysShown pc) ls st σ) : E_X0_waysShown Q pc ls st σ := qw_runs qk_0_wC co_X0_waysShown N pc _ ls st σ (fun _ h => qw_find_mem h) h
theorem mt_X0_waysShown {Q : Option Value → qw_M → Prop} {av : List Value} {σ : qw_M} (hn : Nat.ble (lg_sl av).length 7 = true) (h : E_X0_waysShown Q 0 (lv_args 0 av) [] σ) : qw_Mt qw_tw wC my_X0_waysShown av σ Q := qw_Mt.of rfl (by decide +kernel) hn h
abbrev E_X10_add (Q : Option Value → qw_M → Prop) := qw_Ev qw_tw wC qk_10 my_X10_add Q
theorem ev_X10_add {Q : Option Value → qw_M → Prop} {pc : Nat} {ls : qw_L} {st : List Value} {σ : qw_M} (cut : List Nat) (N : Nat) (h : qw_run qw_tw wC qk_10 my_X10_add cd_X10_add cut Q (E_X10_add Q) N pc (qw_find cd_X10_add pc) ls st σ) : E_X10_add Q pc ls st σ := qw_runs qk_10_wC co_X10_add N pc _ ls st σ (fun _ h => qw_find_mem h) h
theorem mt_X10_add {Q : Option Value → qw_M → Prop} {av : List Value} {σ : qw_M} (hn : Nat.ble (lg_sl av).length 4 = true) (h : E_X10_add Q 0 (lv_args 0 av) [] σ) : qw_Mt qw_tw wC my_X10_add av σ Q := qw_Mt.of rfl (by decide +kernel) hn h
abbrev E_X10_agrees (Q : Option Value → qw_M → Prop) := qw_Ev qw_tw wC qk_10 my_X10_agrees Q
theorem ev_X10_agrees {Q : Option Value → qw_M → Prop} {pc : Nat} {ls : qw_L} {st : List Value} {σ : qw_M} (cut : List Nat) (N : Nat) (h : qw_run qw_tw wC qk_10 my_X10_agrees cd_X10_agrees cut Q (E_X10_agrees Q) N pc (qw_find cd_X10_agrees pc) ls st σ) : E_X10_agrees Q pc ls st σ := qw_runs qk_10_wC co_X10_agrees N pc _ ls st σ (fun _ h => qw_find_mem h) h
theorem mt_X10_agrees {Q : Option Value → qw_M → Prop} {av : List Value} {σ : qw_M} (hn : Nat.ble (lg_sl av).length 4 = true) (h : E_X10_agrees Q 0 (lv_args 0 av) [] σ) : qw_Mt qw_tw wC my_X10_agrees av σ Q := qw_Mt.of rfl (by decide +kernel) hn h
abbrev E_X10_agreesIn (Q : Option Value → qw_M → Prop) := qw_Ev qw_tw wC qk_10 my_X10_agreesIn Q
theorem ev_X10_agreesIn {Q : Option Value → qw_M → Prop} {pc : Nat} {ls : qw_L} {st : List Value} {σ : qw_M} (cut : List Nat) (N : Nat) (h : qw_run qw_tw wC qk_10 my_X10_agreesIn cd_X10_agreesIn cut Q (E_X10_agreesIn Q) N pc (qw_find cd_X10_agreesIn pc) ls st σ) : E_X10_agreesIn Q pc ls st σ := qw_runs qk_10_wC co_X10_agreesIn N pc _ ls st σ (fun _ h => qw_find_mem h) h
theorem mt_X10_agreesIn {Q : Option Value → qw_M → Prop} {av : List Value} {σ : qw_M} (hn : Nat.ble (lg_sl av).length 5 = true) (h : E_X10_agreesIn Q 0 (lv_args 0 av) [] σ) : qw_Mt qw_tw wC my_X10_agreesIn av σ Q := qw_Mt.of rfl (by decide +kernel) hn h
abbrev E_X10_cellToAsk (Q : Option Value → qw_M → Prop) := qw_Ev qw_tw wC qk_10 my_X10_cellToAsk Q
theorem ev_X10_cellToAsk {Q : Option Value → qw_M → Prop} {pc : Nat} {ls : qw_L} {st : List Value} {σ : qw_M} (cut : List Nat) (N : Nat) (h : qw_run qw_tw wC qk_10 my_X10_cellToAsk cd_X10_cellToAsk cut Q (E_X10_cellToAsk Q) N pc (qw_find cd_X10_cellToAsk pc) ls st σ) : E_X10_cellToAsk Q pc ls st σ := qw_runs qk_10_wC co_X10_cellToAsk N pc _ ls st σ (fun _ h => qw_find_mem h) h
theorem mt_X10_cellToAsk {Q : Option Value → qw_M → Prop} {av : List Value} {σ : qw_M} (hn : Nat.ble (lg_sl av).length 8 = true) (h : E_X10_cellToAsk Q 0 (lv_args 0 av) [] σ) : qw_Mt qw_tw wC my_X10_cellToAsk av σ Q := qw_Mt.of rfl (by decide +kernel) hn h
abbrev E_X10_colours (Q : Option Value → qw_M → Prop) := qw_Ev qw_tw wC qk_10 my_X10_colours Q
theorem ev_X10_colours {Q : Option Value → qw_M → Prop} {pc : Nat} {ls : qw_L} {st : List Value} {σ : qw_M} (cut : List Nat) (N : Nat) (h : qw_run qw_tw wC qk_10 my_X10_colours cd_X10_colours cut Q (E_X10_colours Q) N pc (qw_find cd_X10_colours pc) ls st σ) : E_X10_colours Q pc ls st σ := qw_runs qk_10_wC co_X10_colours N pc _ ls st σ (fun _ h => qw_find_mem h) h
theorem mt_X10_colours {Q : Option Value → qw_M → Prop} {av : List Value} {σ : qw_M} (hn : Nat.ble (lg_sl av).length 4 = true) (h : E_X10_colours Q 0 (lv_args 0 av) [] σ) : qw_Mt qw_tw wC my_X10_colours av σ Q := qw_Mt.of rfl (by decide +kernel) hn h
abbrev E_X10_depths (Q : Option Value → qw_M → Prop) := qw_Ev qw_tw wC qk_10 my_X10_depths Q
theorem ev_X10_depths {Q : Option Value → qw_M → Prop} {pc : Nat} {ls : qw_L} {st : List Value} {σ : qw_M} (cut : List Nat) (N : Nat) (h : qw_run qw_tw wC qk_10 my_X10_depths cd_X10_depths cut Q (E_X10_depths Q) N pc (qw_find cd_X10_depths pc) ls st σ) : E_X10_depths Q pc ls st σ := qw_runs qk_10_wC co_X10_depths N pc _ ls st σ (fun _ h => qw_find_mem h) h
theorem mt_X10_depths {Q : Option Value → qw_M → Prop} {av : List Value} {σ : qw_M} (hn : Nat.ble (lg_sl av).length 4 = true) (h : E_X10_depths Q 0 (lv_args 0 av) [] σ) : qw_Mt qw_tw wC my_X10_depths av σ Q := qw_Mt.of rfl (by decide +kernel) hn h
abbrev E_X10_neverSteps (Q : Option Value → qw_M → Prop) := qw_Ev qw_tw wC qk_10 my_X10_neverSteps Q
theorem ev_X10_neverSteps {Q : Option Value → qw_M → Prop} {pc : Nat} {ls : qw_L} {st : List Value} {σ : qw_M} (cut : List Nat) (N : Nat) (h : qw_run qw_tw wC qk_10 my_X10_neverSteps cd_X10_neverSteps cut Q (E_X10_neverSteps Q) N pc (qw_find cd_X10_neverSteps pc) ls st σ) : E_X10_neverSteps Q pc ls st σ := qw_runs qk_10_wC co_X10_neverSteps N pc _ ls st σ (fun _ h => qw_find_mem h) h
theorem mt_X10_neverSteps {Q : Option Value → qw_M → Prop} {av : List Value} {σ : qw_M} (hn : Nat.ble (lg_sl av).length 4 = true) (h : E_X10_neverSteps Q 0 (lv_args 0 av) [] σ) : qw_Mt qw_tw wC my_X10_neverSteps av σ Q := qw_Mt.of rfl (by decide +kernel) hn h
abbrev E_X10_tallyLights (Q : Option Value → qw_M → Prop) := qw_Ev qw_tw wC qk_10 my_X10_tallyLights Q
theorem ev_X10_tallyLights {Q : Option Value → qw_M → Prop} {pc : Nat} {ls : qw_L} {st : List Value} {σ : qw_M} (cut : List Nat) (N : Nat) (h : qw_run qw_tw wC qk_10 my_X10_tallyLights cd_X10_tallyLights cut Q (E_X10_tallyLights Q) N pc (qw_find cd_X10_tallyLights pc) ls st σ) : E_X10_tallyLights Q pc ls st σ := qw_runs qk_10_wC co_X10_tallyLights N pc _ ls st σ (fun _ h => qw_find_mem h) h
theorem mt_X10_tallyLights {Q : Option Value → qw_M → Prop} {av : List Value} {σ : qw_M} (hn : Nat.ble (lg_sl av).length 5 = true) (h : E_X10_tallyLights Q 0 (lv_args 0 av) [] σ) : qw_Mt qw_tw wC my_X10_tallyLights av σ Q := qw_Mt.of rfl (by decide +kernel) hn h
abbrev E_X10_watchedSteps (Q : Option Value → qw_M → Prop) := qw_Ev qw_tw wC qk_10 my_X10_watchedSteps Q
theorem ev_X10_watchedSteps {Q : Option Value → qw_M → Prop} {pc : Nat} {ls : qw_L} {st : List Value} {σ : qw_M} (cut : List Nat) (N : Nat) (h : qw_run qw_tw wC qk_10 my_X10_watchedSteps cd_X10_watchedSteps cut Q (E_X10_watchedSteps Q) N pc (qw_find cd_X10_watchedSteps pc) ls st σ) : E_X10_watchedSteps Q pc ls st σ := qw_runs qk_10_wC co_X10_watchedSteps N pc _ ls st σ (fun _ h => qw_find_mem h) h
theorem mt_X10_watchedSteps {Q : Option Value → qw_M → Prop} {av : List Value} {σ : qw_M} (hn : Nat.ble (lg_sl av).length 3 = true) (h : E_X10_watchedSteps Q 0 (lv_args 0 av) [] σ) : qw_Mt qw_tw wC my_X10_watchedSteps av σ Q := qw_Mt.of rfl (by decide +kernel) hn h
abbrev E_X11_ask (Q : Option Value → qw_M → Prop) := qw_Ev qw_tw wC qk_11 my_X11_ask Q
theorem ev_X11_ask {Q : Option Value → qw_M → Prop} {pc : Nat} {ls : qw_L} {st : List Value} {σ : qw_M} (cut : List Nat) (N : Nat) (h : qw_run qw_tw wC qk_11 my_X11_ask cd_X11_ask cut Q (E_X11_ask Q) N pc (qw_find cd_X11_ask pc) ls st σ) : E_X11_ask Q pc ls st σ := qw_runs qk_11_wC co_X11_ask N pc _ ls st σ (fun _ h => qw_find_mem h) h
theorem mt_X11_ask {Q : Option Value → qw_M → Prop} {av : List Value} {σ : qw_M} (hn : Nat.ble (lg_sl av).length 2 = true) (h : E_X11_ask Q 0 (lv_args 0 av) [] σ) : qw_Mt qw_tw wC my_X11_ask av σ Q := qw_Mt.of rfl (by decide +kernel) hn h
abbrev E_X11_at (Q : Option Value → qw_M → Prop) := qw_Ev qw_tw wC qk_11 my_X11_at Q
theorem ev_X11_at {Q : Option Value → qw_M → Prop} {pc : Nat} {ls : qw_L} {st : List Value} {σ : qw_M} (cut : List Nat) (N : Nat) (h : qw_run qw_tw wC qk_11 my_X11_at cd_X11_at cut Q (E_X11_at Q) N pc (qw_find cd_X11_at pc) ls st σ) : E_X11_at Q pc ls st σ := qw_runs qk_11_wC co_X11_at N pc _ ls st σ (fun _ h => qw_find_mem h) h
theorem mt_X11_at {Q : Option Value → qw_M → Prop} {av : List Value} {σ : qw_M} (hn : Nat.ble (lg_sl av).length 4 = true) (h : E_X11_at Q 0 (lv_args 0 av) [] σ) : qw_Mt qw_tw wC my_X11_at av σ Q := qw_Mt.of rfl (by decide +kernel) hn h
abbrev E_X11_back (Q : Option Value → qw_M → Prop) := qw_Ev qw_tw wC qk_11 my_X11_back Q
theorem ev_X11_back {Q : Option Value → qw_M → Prop} {pc : Nat} {ls : qw_L} {st : List Value} {σ : qw_M} (cut : List Nat) (N : Nat) (h : qw_run qw_tw wC qk_11 my_X11_back cd_X11_back cut Q (E_X11_back Q) N pc (qw_find cd_X11_back pc) ls st σ) : E_X11_back Q pc ls st σ := qw_runs qk_11_wC co_X11_back N pc _ ls st σ (fun _ h => qw_find_mem h) h
theorem mt_X11_back {Q : Option Value → qw_M → Prop} {av : List Value} {σ : qw_M} (hn : Nat.ble (lg_sl av).length 1 = true) (h : E_X11_back Q 0 (lv_args 0 av) [] σ) : qw_Mt qw_tw wC my_X11_back av σ Q := qw_Mt.of rfl (by decide +kernel) hn h
abbrev E_X11_copy (Q : Option Value → qw_M → Prop) := qw_Ev qw_tw wC qk_11 my_X11_copy Q
theorem ev_X11_copy {Q : Option Value → qw_M → Prop} {pc : Nat} {ls : qw_L} {st : List Value} {σ : qw_M} (cut : List Nat) (N : Nat) (h : qw_run qw_tw wC qk_11 my_X11_copy cd_X11_copy cut Q (E_X11_copy Q) N pc (qw_find cd_X11_copy pc) ls st σ) : E_X11_copy Q pc ls st σ := qw_runs qk_11_wC co_X11_copy N pc _ ls st σ (fun _ h => qw_find_mem h) h
theorem mt_X11_copy {Q : Option Value → qw_M → Prop} {av : List Value} {σ : qw_M} (hn : Nat.ble (lg_sl av).length 8 = true) (h : E_X11_copy Q 0 (lv_args 0 av) [] σ) : qw_Mt qw_tw wC my_X11_copy av σ Q := qw_Mt.of rfl (by decide +kernel) hn h
abbrev E_X11_count (Q : Option Value → qw_M → Prop) := qw_Ev qw_tw wC qk_11 my_X11_count Q
theorem ev_X11_count {Q : Option Value → qw_M → Prop} {pc : Nat} {ls : qw_L} {st : List Value} {σ : qw_M} (cut : List Nat) (N : Nat) (h : qw_run qw_tw wC qk_11 my_X11_count cd_X11_count cut Q (E_X11_count Q) N pc (qw_find cd_X11_count pc) ls st σ) : E_X11_count Q pc ls st σ := qw_runs qk_11_wC co_X11_count N pc _ ls st σ (fun _ h => qw_find_mem h) h
theorem mt_X11_count {Q : Option Value → qw_M → Prop} {av : List Value} {σ : qw_M} (hn : Nat.ble (lg_sl av).length 2 = true) (h : E_X11_count Q 0 (lv_args 0 av) [] σ) : qw_Mt qw_tw wC my_X11_count av σ Q := qw_Mt.of rfl (by decide +kernel) hn h
abbrev E_X11_covers (Q : Option Value → qw_M → Prop) := qw_Ev qw_tw wC qk_11 my_X11_covers Q
theorem ev_X11_covers {Q : Option Value → qw_M → Prop} {pc : Nat} {ls : qw_L} {st : List Value} {σ : qw_M} (cut : List Nat) (N : Nat) (h : qw_run qw_tw wC qk_11 my_X11_covers cd_X11_covers cut Q (E_X11_covers Q) N pc (qw_find cd_X11_covers pc) ls st σ) : E_X11_covers Q pc ls st σ := qw_runs qk_11_wC co_X11_covers N pc _ ls st σ (fun _ h => qw_find_mem h) h
theorem mt_X11_covers {Q : Option Value → qw_M → Prop} {av : List Value} {σ : qw_M} (hn : Nat.ble (lg_sl av).length 3 = true) (h : E_X11_covers Q 0 (lv_args 0 av) [] σ) : qw_Mt qw_tw wC my_X11_covers av σ Q := qw_Mt.of rfl (by decide +kernel) hn h
abbrev E_X11_cue (Q : Option Value → qw_M → Prop) := qw_Ev qw_tw wC qk_11 my_X11_cue Q
theorem ev_X11_cue {Q : Option Value → qw_M → Prop} {pc : Nat} {ls : qw_L} {st : List Value} {σ : qw_M} (cut : List Nat) (N : Nat) (h : qw_run qw_tw wC qk_11 my_X11_cue cd_X11_cue cut Q (E_X11_cue Q) N pc (qw_find cd_X11_cue pc) ls st σ) : E_X11_cue Q pc ls st σ := qw_runs qk_11_wC co_X11_cue N pc _ ls st σ (fun _ h => qw_find_mem h) h
theorem mt_X11_cue {Q : Option Value → qw_M → Prop} {av : List Value} {σ : qw_M} (hn : Nat.ble (lg_sl av).length 3 = true) (h : E_X11_cue Q 0 (lv_args 0 av) [] σ) : qw_Mt qw_tw wC my_X11_cue av σ Q := qw_Mt.of rfl (by decide +kernel) hn h
abbrev E_X11_darkest (Q : Option Value → qw_M → Prop) := qw_Ev qw_tw wC qk_11 my_X11_darkest Q
theorem ev_X11_darkest {Q : Option Value → qw_M → Prop} {pc : Nat} {ls : qw_L} {st : List Value} {σ : qw_M} (cut : List Nat) (N : Nat) (h : qw_run qw_tw wC qk_11 my_X11_darkest cd_X11_darkest cut Q (E_X11_darkest Q) N pc (qw_find cd_X11_darkest pc) ls st σ) : E_X11_darkest Q pc ls st σ := qw_runs qk_11_wC co_X11_darkest N pc _ ls st σ (fun _ h => qw_find_mem h) h
theorem mt_X11_darkest {Q : Option Value → qw_M → Prop} {av : List Value} {σ : qw_M} (hn : Nat.ble (lg_sl av).length 1 = true) (h : E_X11_darkest Q 0 (lv_args 0 av) [] σ) : qw_Mt qw_tw wC my_X11_darkest av σ Q := qw_Mt.of rfl (by decide +kernel) hn h
abbrev E_X11_digest (Q : Option Value → qw_M → Prop) := qw_Ev qw_tw wC qk_11 my_X11_digest Q
theorem ev_X11_digest {Q : Option Value → qw_M → Prop} {pc : Nat} {ls : qw_L} {st : List Value} {σ : qw_M} (cut : List Nat) (N : Nat) (h : qw_run qw_tw wC qk_11 my_X11_digest cd_X11_digest cut Q (E_X11_digest Q) N pc (qw_find cd_X11_digest pc) ls st σ) : E_X11_digest Q pc ls st σ := qw_runs qk_11_wC co_X11_digest N pc _ ls st σ (fun _ h => qw_find_mem h) h
theorem mt_X11_digest {Q : Option Value → qw_M → Prop} {av : List Value} {σ : qw_M} (hn : Nat.ble (lg_sl av).length 4 = true) (h : E_X11_digest Q 0 (lv_args 0 av) [] σ) : qw_Mt qw_tw wC my_X11_digest av σ Q := qw_Mt.of rfl (by decide +kernel) hn h
abbrev E_X11_fault (Q : Option Value → qw_M → Prop) := qw_Ev qw_tw wC qk_11 my_X11_fault Q
theorem ev_X11_fault {Q : Option Value → qw_M → Prop} {pc : Nat} {ls : qw_L} {st : List Value} {σ : qw_M} (cut : List Nat) (N : Nat) (h : qw_run qw_tw wC qk_11 my_X11_fault cd_X11_fault cut Q (E_X11_fault Q) N pc (qw_find cd_X11_fault pc) ls st σ) : E_X11_fault Q pc ls st σ := qw_runs qk_11_wC co_X11_fault N pc _ ls st σ (fun _ h => qw_find_mem h) h
theorem mt_X11_fault {Q : Option Value → qw_M → Prop} {av : List Value} {σ : qw_M} (hn : Nat.ble (lg_sl av).length 2 = true) (h : E_X11_fault Q 0 (lv_args 0 av) [] σ) : qw_Mt qw_tw wC my_X11_fault av σ Q := qw_Mt.of rfl (by decide +kernel) hn h
abbrev E_X11_figure (Q : Option Value → qw_M → Prop) := qw_Ev qw_tw wC qk_11 my_X11_figure Q
theorem ev_X11_figure {Q : Option Value → qw_M → Prop} {pc : Nat} {ls : qw_L} {st : List Value} {σ : qw_M} (cut : List Nat) (N : Nat) (h : qw_run qw_tw wC qk_11 my_X11_figure cd_X11_figure cut Q (E_X11_figure Q) N pc (qw_find cd_X11_figure pc) ls st σ) : E_X11_figure Q pc ls st σ := qw_runs qk_11_wC co_X11_figure N pc _ ls st σ (fun _ h => qw_find_mem h) h
theorem mt_X11_figure {Q : Option Value → qw_M → Prop} {av : List Value} {σ : qw_M} (hn : Nat.ble (lg_sl av).length 3 = true) (h : E_X11_figure Q 0 (lv_args 0 av) [] σ) : qw_Mt qw_tw wC my_X11_figure av σ Q := qw_Mt.of rfl (by decide +kernel) hn h
abbrev E_X11_find (Q : Option Value → qw_M → Prop) := qw_Ev qw_tw wC qk_11 my_X11_find Q
theorem ev_X11_find {Q : Option Value → qw_M → Prop} {pc : Nat} {ls : qw_L} {st : List Value} {σ : qw_M} (cut : List Nat) (N : Nat) (h : qw_run qw_tw wC qk_11 my_X11_find cd_X11_find cut Q (E_X11_find Q) N pc (qw_find cd_X11_find pc) ls st σ) : E_X11_find Q pc ls st σ := qw_runs qk_11_wC co_X11_find N pc _ ls st σ (fun _ h => qw_find_mem h) h
theorem mt_X11_find {Q : Option Value → qw_M → Prop} {av : List Value} {σ : qw_M} (hn : Nat.ble (lg_sl av).length 2 = true) (h : E_X11_find Q 0 (lv_args 0 av) [] σ) : qw_Mt qw_tw wC my_X11_find av σ Q := qw_Mt.of rfl (by decide +kernel) hn h
abbrev E_X11_findingOf (Q : Option Value → qw_M → Prop) := qw_Ev qw_tw wC qk_11 my_X11_findingOf Q
theorem ev_X11_findingOf {Q : Option Value → qw_M → Prop} {pc : Nat} {ls : qw_L} {st : List Value} {σ : qw_M} (cut : List Nat) (N : Nat) (h : qw_run qw_tw wC qk_11 my_X11_findingOf cd_X11_findingOf cut Q (E_X11_findingOf Q) N pc (qw_find cd_X11_findingOf pc) ls st σ) : E_X11_findingOf Q pc ls st σ := qw_runs qk_11_wC co_X11_findingOf N pc _ ls st σ (fun _ h => qw_find_mem h) h
theorem mt_X11_findingOf {Q : Option Value → qw_M → Prop} {av : List Value} {σ : qw_M} (hn : Nat.ble (lg_sl av).length 3 = true) (h : E_X11_findingOf Q 0 (lv_args 0 av) [] σ) : qw_Mt qw_tw wC my_X11_findingOf av σ Q := qw_Mt.of rfl (by decide +kernel) hn h
abbrev E_X11_flicker (Q : Option Value → qw_M → Prop) := qw_Ev qw_tw wC qk_11 my_X11_flicker Q
theorem ev_X11_flicker {Q : Option Value → qw_M → Prop} {pc : Nat} {ls : qw_L} {st : List Value} {σ : qw_M} (cut : List Nat) (N : Nat) (h : qw_run qw_tw wC qk_11 my_X11_flicker cd_X11_flicker cut Q (E_X11_flicker Q) N pc (qw_find cd_X11_flicker pc) ls st σ) : E_X11_flicker Q pc ls st σ := qw_runs qk_11_wC co_X11_flicker N pc _ ls st σ (fun _ h => qw_find_mem h) h
theorem mt_X11_flicker {Q : Option Value → qw_M → Prop} {av : List Value} {σ : qw_M} (hn : Nat.ble (lg_sl av).length 2 = true) (h : E_X11_flicker Q 0 (lv_args 0 av) [] σ) : qw_Mt qw_tw wC my_X11_flicker av σ Q := qw_Mt.of rfl (by decide +kernel) hn h
abbrev E_X11_forget (Q : Option Value → qw_M → Prop) := qw_Ev qw_tw wC qk_11 my_X11_forget Q
theorem ev_X11_forget {Q : Option Value → qw_M → Prop} {pc : Nat} {ls : qw_L} {st : List Value} {σ : qw_M} (cut : List Nat) (N : Nat) (h : qw_run qw_tw wC qk_11 my_X11_forget cd_X11_forget cut Q (E_X11_forget Q) N pc (qw_find cd_X11_forget pc) ls st σ) : E_X11_forget Q pc ls st σ := qw_runs qk_11_wC co_X11_forget N pc _ ls st σ (fun _ h => qw_find_mem h) h
theorem mt_X11_forget {Q : Option Value → qw_M → Prop} {av : List Value} {σ : qw_M} (hn : Nat.ble (lg_sl av).length 1 = true) (h : E_X11_forget Q 0 (lv_args 0 av) [] σ) : qw_Mt qw_tw wC my_X11_forget av σ Q := qw_Mt.of rfl (by decide +kernel) hn h
abbrev E_X11_get (Q : Option Value → qw_M → Prop) := qw_Ev qw_tw wC qk_11 my_X11_get Q
theorem ev_X11_get {Q : Option Value → qw_M → Prop} {pc : Nat} {ls : qw_L} {st : List Value} {σ : qw_M} (cut : List Nat) (N : Nat) (h : qw_run qw_tw wC qk_11 my_X11_get cd_X11_get cut Q (E_X11_get Q) N pc (qw_find cd_X11_get pc) ls st σ) : E_X11_get Q pc ls st σ := qw_runs qk_11_wC co_X11_get N pc _ ls st σ (fun _ h => qw_find_mem h) h
theorem mt_X11_get {Q : Option Value → qw_M → Prop} {av : List Value} {σ : qw_M} (hn : Nat.ble (lg_sl av).length 6 = true) (h : E_X11_get Q 0 (lv_args 0 av) [] σ) : qw_Mt qw_tw wC my_X11_get av σ Q := qw_Mt.of rfl (by decide +kernel) hn h
abbrev E_X11_hang (Q : Option Value → qw_M → Prop) := qw_Ev qw_tw wC qk_11 my_X11_hang Q
theorem ev_X11_hang {Q : Option Value → qw_M → Prop} {pc : Nat} {ls : qw_L} {st : List Value} {σ : qw_M} (cut : List Nat) (N : Nat) (h : qw_run qw_tw wC qk_11 my_X11_hang cd_X11_hang cut Q (E_X11_hang Q) N pc (qw_find cd_X11_hang pc) ls st σ) : E_X11_hang Q pc ls st σ := qw_runs qk_11_wC co_X11_hang N pc _ ls st σ (fun _ h => qw_find_mem h) h
theorem mt_X11_hang {Q : Option Value → qw_M → Prop} {av : List Value} {σ : qw_M} (hn : Nat.ble (lg_sl av).length 4 = true) (h : E_X11_hang Q 0 (lv_args 0 av) [] σ) : qw_Mt qw_tw wC my_X11_hang av σ Q := qw_Mt.of rfl (by decide +kernel) hn h
abbrev E_X11_isBelow (Q : Option Value → qw_M → Prop) := qw_Ev qw_tw wC qk_11 my_X11_isBelow Q
theorem ev_X11_isBelow {Q : Option Value → qw_M → Prop} {pc : Nat} {ls : qw_L} {st : List Value} {σ : qw_M} (cut : List Nat) (N : Nat) (h : qw_run qw_tw wC qk_11 my_X11_isBelow cd_X11_isBelow cut Q (E_X11_isBelow Q) N pc (qw_find cd_X11_isBelow pc) ls st σ) : E_X11_isBelow Q pc ls st σ := qw_runs qk_11_wC co_X11_isBelow N pc _ ls st σ (fun _ h => qw_find_mem h) h
theorem mt_X11_isBelow {Q : Option Value → qw_M → Prop} {av : List Value} {σ : qw_M} (hn : Nat.ble (lg_sl av).length 2 = true) (h : E_X11_isBelow Q 0 (lv_args 0 av) [] σ) : qw_Mt qw_tw wC my_X11_isBelow av σ Q := qw_Mt.of rfl (by decide +kernel) hn h
abbrev E_X11_lamp (Q : Option Value → qw_M → Prop) := qw_Ev qw_tw wC qk_11 my_X11_lamp Q
theorem ev_X11_lamp {Q : Option Value → qw_M → Prop} {pc : Nat} {ls : qw_L} {st : List Value} {σ : qw_M} (cut : List Nat) (N : Nat) (h : qw_run qw_tw wC qk_11 my_X11_lamp cd_X11_lamp cut Q (E_X11_lamp Q) N pc (qw_find cd_X11_lamp pc) ls st σ) : E_X11_lamp Q pc ls st σ := qw_runs qk_11_wC co_X11_lamp N pc _ ls st σ (fun _ h => qw_find_mem h) h
theorem mt_X11_lamp {Q : Option Value → qw_M → Prop} {av : List Value} {σ : qw_M} (hn : Nat.ble (lg_sl av).length 3 = true) (h : E_X11_lamp Q 0 (lv_args 0 av) [] σ) : qw_Mt qw_tw wC my_X11_lamp av σ Q := qw_Mt.of rfl (by decide +kernel) hn h
abbrev E_X11_lay (Q : Option Value → qw_M → Prop) := qw_Ev qw_tw wC qk_11 my_X11_lay Q
theorem ev_X11_lay {Q : Option Value → qw_M → Prop} {pc : Nat} {ls : qw_L} {st : List Value} {σ : qw_M} (cut : List Nat) (N : Nat) (h : qw_run qw_tw wC qk_11 my_X11_lay cd_X11_lay cut Q (E_X11_lay Q) N pc (qw_find cd_X11_lay pc) ls st σ) : E_X11_lay Q pc ls st σ := qw_runs qk_11_wC co_X11_lay N pc _ ls st σ (fun _ h => qw_find_mem h) h
theorem mt_X11_lay {Q : Option Value → qw_M → Prop} {av : List Value} {σ : qw_M} (hn : Nat.ble (lg_sl av).length 7 = true) (h : E_X11_lay Q 0 (lv_args 0 av) [] σ) : qw_Mt qw_tw wC my_X11_lay av σ Q := qw_Mt.of rfl (by decide +kernel) hn h
abbrev E_X11_leave (Q : Option Value → qw_M → Prop) := qw_Ev qw_tw wC qk_11 my_X11_leave Q
theorem ev_X11_leave {Q : Option Value → qw_M → Prop} {pc : Nat} {ls : qw_L} {st : List Value} {σ : qw_M} (cut : List Nat) (N : Nat) (h : qw_run qw_tw wC qk_11 my_X11_leave cd_X11_leave cut Q (E_X11_leave Q) N pc (qw_find cd_X11_leave pc) ls st σ) : E_X11_leave Q pc ls st σ := qw_runs qk_11_wC co_X11_leave N pc _ ls st σ (fun _ h => qw_find_mem h) h
theorem mt_X11_leave {Q : Option Value → qw_M → Prop} {av : List Value} {σ : qw_M} (hn : Nat.ble (lg_sl av).length 3 = true) (h : E_X11_leave Q 0 (lv_args 0 av) [] σ) : qw_Mt qw_tw wC my_X11_leave av σ Q := qw_Mt.of rfl (by decide +kernel) hn h
abbrev E_X11_light (Q : Option Value → qw_M → Prop) := qw_Ev qw_tw wC qk_11 my_X11_light Q
theorem ev_X11_light {Q : Option Value → qw_M → Prop} {pc : Nat} {ls : qw_L} {st : List Value} {σ : qw_M} (cut : List Nat) (N : Nat) (h : qw_run qw_tw wC qk_11 my_X11_light cd_X11_light cut Q (E_X11_light Q) N pc (qw_find cd_X11_light pc) ls st σ) : E_X11_light Q pc ls st σ := qw_runs qk_11_wC co_X11_light N pc _ ls st σ (fun _ h => qw_find_mem h) h
theorem mt_X11_light {Q : Option Value → qw_M → Prop} {av : List Value} {σ : qw_M} (hn : Nat.ble (lg_sl av).length 3 = true) (h : E_X11_light Q 0 (lv_args 0 av) [] σ) : qw_Mt qw_tw wC my_X11_light av σ Q := qw_Mt.of rfl (by decide +kernel) hn h
abbrev E_X11_lose (Q : Option Value → qw_M → Prop) := qw_Ev qw_tw wC qk_11 my_X11_lose Q
theorem ev_X11_lose {Q : Option Value → qw_M → Prop} {pc : Nat} {ls : qw_L} {st : List Value} {σ : qw_M} (cut : List Nat) (N : Nat) (h : qw_run qw_tw wC qk_11 my_X11_lose cd_X11_lose cut Q (E_X11_lose Q) N pc (qw_find cd_X11_lose pc) ls st σ) : E_X11_lose Q pc ls st σ := qw_runs qk_11_wC co_X11_lose N pc _ ls st σ (fun _ h => qw_find_mem h) h
theorem mt_X11_lose {Q : Option Value → qw_M → Prop} {av : List Value} {σ : qw_M} (hn : Nat.ble (lg_sl av).length 3 = true) (h : E_X11_lose Q 0 (lv_args 0 av) [] σ) : qw_Mt qw_tw wC my_X11_lose av σ Q := qw_Mt.of rfl (by decide +kernel) hn h
abbrev E_X11_mix (Q : Option Value → qw_M → Prop) := qw_Ev qw_tw wC qk_11 my_X11_mix Q
theorem ev_X11_mix {Q : Option Value → qw_M → Prop} {pc : Nat} {ls : qw_L} {st : List Value} {σ : qw_M} (cut : List Nat) (N : Nat) (h : qw_run qw_tw wC qk_11 my_X11_mix cd_X11_mix cut Q (E_X11_mix Q) N pc (qw_find cd_X11_mix pc) ls st σ) : E_X11_mix Q pc ls st σ := qw_runs qk_11_wC co_X11_mix N pc _ ls st σ (fun _ h => qw_find_mem h) h
theorem mt_X11_mix {Q : Option Value → qw_M → Prop} {av : List Value} {σ : qw_M} (hn : Nat.ble (lg_sl av).length 4 = true) (h : E_X11_mix Q 0 (lv_args 0 av) [] σ) : qw_Mt qw_tw wC my_X11_mix av σ Q := qw_Mt.of rfl (by decide +kernel) hn h
abbrev E_X11_mixCell (Q : Option Value → qw_M → Prop) := qw_Ev qw_tw wC qk_11 my_X11_mixCell Q
theorem ev_X11_mixCell {Q : Option Value → qw_M → Prop} {pc : Nat} {ls : qw_L} {st : List Value} {σ : qw_M} (cut : List Nat) (N : Nat) (h : qw_run qw_tw wC qk_11 my_X11_mixCell cd_X11_mixCell cut Q (E_X11_mixCell Q) N pc (qw_find cd_X11_mixCell pc) ls st σ) : E_X11_mixCell Q pc ls st σ := qw_runs qk_11_wC co_X11_mixCell N pc _ ls st σ (fun _ h => qw_find_mem h) h
theorem mt_X11_mixCell {Q : Option Value → qw_M → Prop} {av : List Value} {σ : qw_M} (hn : Nat.ble (lg_sl av).length 6 = true) (h : E_X11_mixCell Q 0 (lv_args 0 av) [] σ) : qw_Mt qw_tw wC my_X11_mixCell av σ Q := qw_Mt.of rfl (by decide +kernel) hn h
abbrev E_X11_mixFigure (Q : Option Value → qw_M → Prop) := qw_Ev qw_tw wC qk_11 my_X11_mixFigure Q
theorem ev_X11_mixFigure {Q : Option Value → qw_M → Prop} {pc : Nat} {ls : qw_L} {st : List Value} {σ : qw_M} (cut : List Nat) (N : Nat) (h : qw_run qw_tw wC qk_11 my_X11_mixFigure cd_X11_mixFigure cut Q (E_X11_mixFigure Q) N pc (qw_find cd_X11_mixFigure pc) ls st σ) : E_X11_mixFigure Q pc ls st σ := qw_runs qk_11_wC co_X11_mixFigure N pc _ ls st σ (fun _ h => qw_find_mem h) h
theorem mt_X11_mixFigure {Q : Option Value → qw_M → Prop} {av : List Value} {σ : qw_M} (hn : Nat.ble (lg_sl av).length 7 = true) (h : E_X11_mixFigure Q 0 (lv_args 0 av) [] σ) : qw_Mt qw_tw wC my_X11_mixFigure av σ Q := qw_Mt.of rfl (by decide +kernel) hn h
abbrev E_X11_mixRest (Q : Option Value → qw_M → Prop) := qw_Ev qw_tw wC qk_11 my_X11_mixRest Q
theorem ev_X11_mixRest {Q : Option Value → qw_M → Prop} {pc : Nat} {ls : qw_L} {st : List Value} {σ : qw_M} (cut : List Nat) (N : Nat) (h : qw_run qw_tw wC qk_11 my_X11_mixRest cd_X11_mixRest cut Q (E_X11_mixRest Q) N pc (qw_find cd_X11_mixRest pc) ls st σ) : E_X11_mixRest Q pc ls st σ := qw_runs qk_11_wC co_X11_mixRest N pc _ ls st σ (fun _ h => qw_find_mem h) h
theorem mt_X11_mixRest {Q : Option Value → qw_M → Prop} {av : List Value} {σ : qw_M} (hn : Nat.ble (lg_sl av).length 5 = true) (h : E_X11_mixRest Q 0 (lv_args 0 av) [] σ) : qw_Mt qw_tw wC my_X11_mixRest av σ Q := qw_Mt.of rfl (by decide +kernel) hn h
abbrev E_X11_mixShown (Q : Option Value → qw_M → Prop) := qw_Ev qw_tw wC qk_11 my_X11_mixShown Q
theorem ev_X11_mixShown {Q : Option Value → qw_M → Prop} {pc : Nat} {ls : qw_L} {st : List Value} {σ : qw_M} (cut : List Nat) (N : Nat) (h : qw_run qw_tw wC qk_11 my_X11_mixShown cd_X11_mixShown cut Q (E_X11_mixShown Q) N pc (qw_find cd_X11_mixShown pc) ls st σ) : E_X11_mixShown Q pc ls st σ := qw_runs qk_11_wC co_X11_mixShown N pc _ ls st σ (fun _ h => qw_find_mem h) h
theorem mt_X11_mixShown {Q : Option Value → qw_M → Prop} {av : List Value} {σ : qw_M} (hn : Nat.ble (lg_sl av).length 6 = true) (h : E_X11_mixShown Q 0 (lv_args 0 av) [] σ) : qw_Mt qw_tw wC my_X11_mixShown av σ Q := qw_Mt.of rfl (by decide +kernel) hn h
abbrev E_X11_mixStep (Q : Option Value → qw_M → Prop) := qw_Ev qw_tw wC qk_11 my_X11_mixStep Q
theorem ev_X11_mixStep {Q : Option Value → qw_M → Prop} {pc : Nat} {ls : qw_L} {st : List Value} {σ : qw_M} (cut : List Nat) (N : Nat) (h : qw_run qw_tw wC qk_11 my_X11_mixStep cd_X11_mixStep cut Q (E_X11_mixStep Q) N pc (qw_find cd_X11_mixStep pc) ls st σ) : E_X11_mixStep Q pc ls st σ := qw_runs qk_11_wC co_X11_mixStep N pc _ ls st σ (fun _ h => qw_find_mem h) h
theorem mt_X11_mixStep {Q : Option Value → qw_M → Prop} {av : List Value} {σ : qw_M} (hn : Nat.ble (lg_sl av).length 6 = true) (h : E_X11_mixStep Q 0 (lv_args 0 av) [] σ) : qw_Mt qw_tw wC my_X11_mixStep av σ Q := qw_Mt.of rfl (by decide +kernel) hn h
abbrev E_X11_mixStepPlans (Q : Option Value → qw_M → Prop) := qw_Ev qw_tw wC qk_11 my_X11_mixStepPlans Q
theorem ev_X11_mixStepPlans {Q : Option Value → qw_M → Prop} {pc : Nat} {ls : qw_L} {st : List Value} {σ : qw_M} (cut : List Nat) (N : Nat) (h : qw_run qw_tw wC qk_11 my_X11_mixStepPlans cd_X11_mixStepPlans cut Q (E_X11_mixStepPlans Q) N pc (qw_find cd_X11_mixStepPlans pc) ls st σ) : E_X11_mixStepPlans Q pc ls st σ := qw_runs qk_11_wC co_X11_mixStepPlans N pc _ ls st σ (fun _ h => qw_find_mem h) h
theorem mt_X11_mixStepPlans {Q : Option Value → qw_M → Prop} {av : List Value} {σ : qw_M} (hn : Nat.ble (lg_sl av).length 6 = true) (h : E_X11_mixStepPlans Q 0 (lv_args 0 av) [] σ) : qw_Mt qw_tw wC my_X11_mixStepPlans av σ Q := qw_Mt.of rfl (by decide +kernel) hn h
abbrev E_X11_more (Q : Option Value → qw_M → Prop) := qw_Ev qw_tw wC qk_11 my_X11_more Q
theorem ev_X11_more {Q : Option Value → qw_M → Prop} {pc : Nat} {ls : qw_L} {st : List Value} {σ : qw_M} (cut : List Nat) (N : Nat) (h : qw_run qw_tw wC qk_11 my_X11_more cd_X11_more cut Q (E_X11_more Q) N pc (qw_find cd_X11_more pc) ls st σ) : E_X11_more Q pc ls st σ := qw_runs qk_11_wC co_X11_more N pc _ ls st σ (fun _ h => qw_find_mem h) h
theorem mt_X11_more {Q : Option Value → qw_M → Prop} {av : List Value} {σ : qw_M} (hn : Nat.ble (lg_sl av).length 2 = true) (h : E_X11_more Q 0 (lv_args 0 av) [] σ) : qw_Mt qw_tw wC my_X11_more av σ Q := qw_Mt.of rfl (by decide +kernel) hn h
abbrev E_X11_never (Q : Option Value → qw_M → Prop) := qw_Ev qw_tw wC qk_11 my_X11_never Q
theorem ev_X11_never {Q : Option Value → qw_M → Prop} {pc : Nat} {ls : qw_L} {st : List Value} {σ : qw_M} (cut : List Nat) (N : Nat) (h : qw_run qw_tw wC qk_11 my_X11_never cd_X11_never cut Q (E_X11_never Q) N pc (qw_find cd_X11_never pc) ls st σ) : E_X11_never Q pc ls st σ := qw_runs qk_11_wC co_X11_never N pc _ ls st σ (fun _ h => qw_find_mem h) h
theorem mt_X11_never {Q : Option Value → qw_M → Prop} {av : List Value} {σ : qw_M} (hn : Nat.ble (lg_sl av).length 1 = true) (h : E_X11_never Q 0 (lv_args 0 av) [] σ) : qw_Mt qw_tw wC my_X11_never av σ Q := qw_Mt.of rfl (by decide +kernel) hn h
abbrev E_X11_parse (Q : Option Value → qw_M → Prop) := qw_Ev qw_tw wC qk_11 my_X11_parse Q
theorem ev_X11_parse {Q : Option Value → qw_M → Prop} {pc : Nat} {ls : qw_L} {st : List Value} {σ : qw_M} (cut : List Nat) (N : Nat) (h : qw_run qw_tw wC qk_11 my_X11_parse cd_X11_parse cut Q (E_X11_parse Q) N pc (qw_find cd_X11_parse pc) ls st σ) : E_X11_parse Q pc ls st σ := qw_runs qk_11_wC co_X11_parse N pc _ ls st σ (fun _ h => qw_find_mem h) h
theorem mt_X11_parse {Q : Option Value → qw_M → Prop} {av : List Value} {σ : qw_M} (hn : Nat.ble (lg_sl av).length 2 = true) (h : E_X11_parse Q 0 (lv_args 0 av) [] σ) : qw_Mt qw_tw wC my_X11_parse av σ Q := qw_Mt.of rfl (by decide +kernel) hn h
abbrev E_X11_picture (Q : Option Value → qw_M → Prop) := qw_Ev qw_tw wC qk_11 my_X11_picture Q
theorem ev_X11_picture {Q : Option Value → qw_M → Prop} {pc : Nat} {ls : qw_L} {st : List Value} {σ : qw_M} (cut : List Nat) (N : Nat) (h : qw_run qw_tw wC qk_11 my_X11_picture cd_X11_picture cut Q (E_X11_picture Q) N pc (qw_find cd_X11_picture pc) ls st σ) : E_X11_picture Q pc ls st σ := qw_runs qk_11_wC co_X11_picture N pc _ ls st σ (fun _ h => qw_find_mem h) h
theorem mt_X11_picture {Q : Option Value → qw_M → Prop} {av : List Value} {σ : qw_M} (hn : Nat.ble (lg_sl av).length 2 = true) (h : E_X11_picture Q 0 (lv_args 0 av) [] σ) : qw_Mt qw_tw wC my_X11_picture av σ Q := qw_Mt.of rfl (by decide +kernel) hn h
abbrev E_X11_play (Q : Option Value → qw_M → Prop) := qw_Ev qw_tw wC qk_11 my_X11_play Q
theorem ev_X11_play {Q : Option Value → qw_M → Prop} {pc : Nat} {ls : qw_L} {st : List Value} {σ : qw_M} (cut : List Nat) (N : Nat) (h : qw_run qw_tw wC qk_11 my_X11_play cd_X11_play cut Q (E_X11_play Q) N pc (qw_find cd_X11_play pc) ls st σ) : E_X11_play Q pc ls st σ := qw_runs qk_11_wC co_X11_play N pc _ ls st σ (fun _ h => qw_find_mem h) h
theorem mt_X11_play {Q : Option Value → qw_M → Prop} {av : List Value} {σ : qw_M} (hn : Nat.ble (lg_sl av).length 4 = true) (h : E_X11_play Q 0 (lv_args 0 av) [] σ) : qw_Mt qw_tw wC my_X11_play av σ Q := qw_Mt.of rfl (by decide +kernel) hn h
abbrev E_X11_read (Q : Option Value → qw_M → Prop) := qw_Ev qw_tw wC qk_11 my_X11_read Q
theorem ev_X11_read {Q : Option Value → qw_M → Prop} {pc : Nat} {ls : qw_L} {st : List Value} {σ : qw_M} (cut : List Nat) (N : Nat) (h : qw_run qw_tw wC qk_11 my_X11_read cd_X11_read cut Q (E_X11_read Q) N pc (qw_find cd_X11_read pc) ls st σ) : E_X11_read Q pc ls st σ := qw_runs qk_11_wC co_X11_read N pc _ ls st σ (fun _ h => qw_find_mem h) h
theorem mt_X11_read {Q : Option Value → qw_M → Prop} {av : List Value} {σ : qw_M} (hn : Nat.ble (lg_sl av).length 4 = true) (h : E_X11_read Q 0 (lv_args 0 av) [] σ) : qw_Mt qw_tw wC my_X11_read av σ Q := qw_Mt.of rfl (by decide +kernel) hn h
abbrev E_X11_screen (Q : Option Value → qw_M → Prop) := qw_Ev qw_tw wC qk_11 my_X11_screen Q
theorem ev_X11_screen {Q : Option Value → qw_M → Prop} {pc : Nat} {ls : qw_L} {st : List Value} {σ : qw_M} (cut : List Nat) (N : Nat) (h : qw_run qw_tw wC qk_11 my_X11_screen cd_X11_screen cut Q (E_X11_screen Q) N pc (qw_find cd_X11_screen pc) ls st σ) : E_X11_screen Q pc ls st σ := qw_runs qk_11_wC co_X11_screen N pc _ ls st σ (fun _ h => qw_find_mem h) h
theorem mt_X11_screen {Q : Option Value → qw_M → Prop} {av : List Value} {σ : qw_M} (hn : Nat.ble (lg_sl av).length 3 = true) (h : E_X11_screen Q 0 (lv_args 0 av) [] σ) : qw_Mt qw_tw wC my_X11_screen av σ Q := qw_Mt.of rfl (by decide +kernel) hn h
abbrev E_X11_seen (Q : Option Value → qw_M → Prop) := qw_Ev qw_tw wC qk_11 my_X11_seen Q
theorem ev_X11_seen {Q : Option Value → qw_M → Prop} {pc : Nat} {ls : qw_L} {st : List Value} {σ : qw_M} (cut : List Nat) (N : Nat) (h : qw_run qw_tw wC qk_11 my_X11_seen cd_X11_seen cut Q (E_X11_seen Q) N pc (qw_find cd_X11_seen pc) ls st σ) : E_X11_seen Q pc ls st σ := qw_runs qk_11_wC co_X11_seen N pc _ ls st σ (fun _ h => qw_find_mem h) h
theorem mt_X11_seen {Q : Option Value → qw_M → Prop} {av : List Value} {σ : qw_M} (hn : Nat.ble (lg_sl av).length 4 = true) (h : E_X11_seen Q 0 (lv_args 0 av) [] σ) : qw_Mt qw_tw wC my_X11_seen av σ Q := qw_Mt.of rfl (by decide +kernel) hn h
abbrev E_X11_sheet (Q : Option Value → qw_M → Prop) := qw_Ev qw_tw wC qk_11 my_X11_sheet Q
theorem ev_X11_sheet {Q : Option Value → qw_M → Prop} {pc : Nat} {ls : qw_L} {st : List Value} {σ : qw_M} (cut : List Nat) (N : Nat) (h : qw_run qw_tw wC qk_11 my_X11_sheet cd_X11_sheet cut Q (E_X11_sheet Q) N pc (qw_find cd_X11_sheet pc) ls st σ) : E_X11_sheet Q pc ls st σ := qw_runs qk_11_wC co_X11_sheet N pc _ ls st σ (fun _ h => qw_find_mem h) h
theorem mt_X11_sheet {Q : Option Value → qw_M → Prop} {av : List Value} {σ : qw_M} (hn : Nat.ble (lg_sl av).length 5 = true) (h : E_X11_sheet Q 0 (lv_args 0 av) [] σ) : qw_Mt qw_tw wC my_X11_sheet av σ Q := qw_Mt.of rfl (by decide +kernel) hn h
abbrev E_X11_sheetOf (Q : Option Value → qw_M → Prop) := qw_Ev qw_tw wC qk_11 my_X11_sheetOf Q
theorem ev_X11_sheetOf {Q : Option Value → qw_M → Prop} {pc : Nat} {ls : qw_L} {st : List Value} {σ : qw_M} (cut : List Nat) (N : Nat) (h : qw_run qw_tw wC qk_11 my_X11_sheetOf cd_X11_sheetOf cut Q (E_X11_sheetOf Q) N pc (qw_find cd_X11_sheetOf pc) ls st σ) : E_X11_sheetOf Q pc ls st σ := qw_runs qk_11_wC co_X11_sheetOf N pc _ ls st σ (fun _ h => qw_find_mem h) h
theorem mt_X11_sheetOf {Q : Option Value → qw_M → Prop} {av : List Value} {σ : qw_M} (hn : Nat.ble (lg_sl av).length 2 = true) (h : E_X11_sheetOf Q 0 (lv_args 0 av) [] σ) : qw_Mt qw_tw wC my_X11_sheetOf av σ Q := qw_Mt.of rfl (by decide +kernel) hn h
abbrev E_X11_shift (Q : Option Value → qw_M → Prop) := qw_Ev qw_tw wC qk_11 my_X11_shift Q
theorem ev_X11_shift {Q : Option Value → qw_M → Prop} {pc : Nat} {ls : qw_L} {st : List Value} {σ : qw_M} (cut : List Nat) (N : Nat) (h : qw_run qw_tw wC qk_11 my_X11_shift cd_X11_shift cut Q (E_X11_shift Q) N pc (qw_find cd_X11_shift pc) ls st σ) : E_X11_shift Q pc ls st σ := qw_runs qk_11_wC co_X11_shift N pc _ ls st σ (fun _ h => qw_find_mem h) h
theorem mt_X11_shift {Q : Option Value → qw_M → Prop} {av : List Value} {σ : qw_M} (hn : Nat.ble (lg_sl av).length 3 = true) (h : E_X11_shift Q 0 (lv_args 0 av) [] σ) : qw_Mt qw_tw wC my_X11_shift av σ Q := qw_Mt.of rfl (by decide +kernel) hn h
abbrev E_X11_shown (Q : Option Value → qw_M → Prop) := qw_Ev qw_tw wC qk_11 my_X11_shown Q
theorem ev_X11_shown {Q : Option Value → qw_M → Prop} {pc : Nat} {ls : qw_L} {st : List Value} {σ : qw_M} (cut : List Nat) (N : Nat) (h : qw_run qw_tw wC qk_11 my_X11_shown cd_X11_shown cut Q (E_X11_shown Q) N pc (qw_find cd_X11_shown pc) ls st σ) : E_X11_shown Q pc ls st σ := qw_runs qk_11_wC co_X11_shown N pc _ ls st σ (fun _ h => qw_find_mem h) h
theorem mt_X11_shown {Q : Option Value → qw_M → Prop} {av : List Value} {σ : qw_M} (hn : Nat.ble (lg_sl av).length 3 = true) (h : E_X11_shown Q 0 (lv_args 0 av) [] σ) : qw_Mt qw_tw wC my_X11_shown av σ Q := qw_Mt.of rfl (by decide +kernel) hn h
abbrev E_X11_stumble (Q : Option Value → qw_M → Prop) := qw_Ev qw_tw wC qk_11 my_X11_stumble Q
theorem ev_X11_stumble {Q : Option Value → qw_M → Prop} {pc : Nat} {ls : qw_L} {st : List Value} {σ : qw_M} (cut : List Nat) (N : Nat) (h : qw_run qw_tw wC qk_11 my_X11_stumble cd_X11_stumble cut Q (E_X11_stumble Q) N pc (qw_find cd_X11_stumble pc) ls st σ) : E_X11_stumble Q pc ls st σ := qw_runs qk_11_wC co_X11_stumble N pc _ ls st σ (fun _ h => qw_find_mem h) h
theorem mt_X11_stumble {Q : Option Value → qw_M → Prop} {av : List Value} {σ : qw_M} (hn : Nat.ble (lg_sl av).length 5 = true) (h : E_X11_stumble Q 0 (lv_args 0 av) [] σ) : qw_Mt qw_tw wC my_X11_stumble av σ Q := qw_Mt.of rfl (by decide +kernel) hn h
abbrev E_X11_textOf (Q : Option Value → qw_M → Prop) := qw_Ev qw_tw wC qk_11 my_X11_textOf Q
theorem ev_X11_textOf {Q : Option Value → qw_M → Prop} {pc : Nat} {ls : qw_L} {st : List Value} {σ : qw_M} (cut : List Nat) (N : Nat) (h : qw_run qw_tw wC qk_11 my_X11_textOf cd_X11_textOf cut Q (E_X11_textOf Q) N pc (qw_find cd_X11_textOf pc) ls st σ) : E_X11_textOf Q pc ls st σ := qw_runs qk_11_wC co_X11_textOf N pc _ ls st σ (fun _ h => qw_find_mem h) h
theorem mt_X11_textOf {Q : Option Value → qw_M → Prop} {av : List Value} {σ : qw_M} (hn : Nat.ble (lg_sl av).length 2 = true) (h : E_X11_textOf Q 0 (lv_args 0 av) [] σ) : qw_Mt qw_tw wC my_X11_textOf av σ Q := qw_Mt.of rfl (by decide +kernel) hn h
abbrev E_X11_touched (Q : Option Value → qw_M → Prop) := qw_Ev qw_tw wC qk_11 my_X11_touched Q
theorem ev_X11_touched {Q : Option Value → qw_M → Prop} {pc : Nat} {ls : qw_L} {st : List Value} {σ : qw_M} (cut : List Nat) (N : Nat) (h : qw_run qw_tw wC qk_11 my_X11_touched cd_X11_touched cut Q (E_X11_touched Q) N pc (qw_find cd_X11_touched pc) ls st σ) : E_X11_touched Q pc ls st σ := qw_runs qk_11_wC co_X11_touched N pc _ ls st σ (fun _ h => qw_find_mem h) h
theorem mt_X11_touched {Q : Option Value → qw_M → Prop} {av : List Value} {σ : qw_M} (hn : Nat.ble (lg_sl av).length 2 = true) (h : E_X11_touched Q 0 (lv_args 0 av) [] σ) : qw_Mt qw_tw wC my_X11_touched av σ Q := qw_Mt.of rfl (by decide +kernel) hn h
abbrev E_X11_type (Q : Option Value → qw_M → Prop) := qw_Ev qw_tw wC qk_11 my_X11_type Q
theorem ev_X11_type {Q : Option Value → qw_M → Prop} {pc : Nat} {ls : qw_L} {st : List Value} {σ : qw_M} (cut : List Nat) (N : Nat) (h : qw_run qw_tw wC qk_11 my_X11_type cd_X11_type cut Q (E_X11_type Q) N pc (qw_find cd_X11_type pc) ls st σ) : E_X11_type Q pc ls st σ := qw_runs qk_11_wC co_X11_type N pc _ ls st σ (fun _ h => qw_find_mem h) h
theorem mt_X11_type {Q : Option Value → qw_M → Prop} {av : List Value} {σ : qw_M} (hn : Nat.ble (lg_sl av).length 4 = true) (h : E_X11_type Q 0 (lv_args 0 av) [] σ) : qw_Mt qw_tw wC my_X11_type av σ Q := qw_Mt.of rfl (by decide +kernel) hn h
abbrev E_X11_undo (Q : Option Value → qw_M → Prop) := qw_Ev qw_tw wC qk_11 my_X11_undo Q
theorem ev_X11_undo {Q : Option Value → qw_M → Prop} {pc : Nat} {ls : qw_L} {st : List Value} {σ : qw_M} (cut : List Nat) (N : Nat) (h : qw_run qw_tw wC qk_11 my_X11_undo cd_X11_undo cut Q (E_X11_undo Q) N pc (qw_find cd_X11_undo pc) ls st σ) : E_X11_undo Q pc ls st σ := qw_runs qk_11_wC co_X11_undo N pc _ ls st σ (fun _ h => qw_find_mem h) h
theorem mt_X11_undo {Q : Option Value → qw_M → Prop} {av : List Value} {σ : qw_M} (hn : Nat.ble (lg_sl av).length 3 = true) (h : E_X11_undo Q 0 (lv_args 0 av) [] σ) : qw_Mt qw_tw wC my_X11_undo av σ Q := qw_Mt.of rfl (by decide +kernel) hn h
abbrev E_X11_was (Q : Option Value → qw_M → Prop) := qw_Ev qw_tw wC qk_11 my_X11_was Q
theorem ev_X11_was {Q : Option Value → qw_M → Prop} {pc : Nat} {ls : qw_L} {st : List Value} {σ : qw_M} (cut : List Nat) (N : Nat) (h : qw_run qw_tw wC qk_11 my_X11_was cd_X11_was cut Q (E_X11_was Q) N pc (qw_find cd_X11_was pc) ls st σ) : E_X11_was Q pc ls st σ := qw_runs qk_11_wC co_X11_was N pc _ ls st σ (fun _ h => qw_find_mem h) h
theorem mt_X11_was {Q : Option Value → qw_M → Prop} {av : List Value} {σ : qw_M} (hn : Nat.ble (lg_sl av).length 3 = true) (h : E_X11_was Q 0 (lv_args 0 av) [] σ) : qw_Mt qw_tw wC my_X11_was av σ Q := qw_Mt.of rfl (by decide +kernel) hn h
abbrev E_X11_wipe (Q : Option Value → qw_M → Prop) := qw_Ev qw_tw wC qk_11 my_X11_wipe Q
theorem ev_X11_wipe {Q : Option Value → qw_M → Prop} {pc : Nat} {ls : qw_L} {st : List Value} {σ : qw_M} (cut : List Nat) (N : Nat) (h : qw_run qw_tw wC qk_11 my_X11_wipe cd_X11_wipe cut Q (E_X11_wipe Q) N pc (qw_find cd_X11_wipe pc) ls st σ) : E_X11_wipe Q pc ls st σ := qw_runs qk_11_wC co_X11_wipe N pc _ ls st σ (fun _ h => qw_find_mem h) h
theorem mt_X11_wipe {Q : Option Value → qw_M → Prop} {av : List Value} {σ : qw_M} (hn : Nat.ble (lg_sl av).length 4 = true) (h : E_X11_wipe Q 0 (lv_args 0 av) [] σ) : qw_Mt qw_tw wC my_X11_wipe av σ Q := qw_Mt.of rfl (by decide +kernel) hn h
abbrev E_X11_write (Q : Option Value → qw_M → Prop) := qw_Ev qw_tw wC qk_11 my_X11_write Q
theorem ev_X11_write {Q : Option Value → qw_M → Prop} {pc : Nat} {ls : qw_L} {st : List Value} {σ : qw_M} (cut : List Nat) (N : Nat) (h : qw_run qw_tw wC qk_11 my_X11_write cd_X11_write cut Q (E_X11_write Q) N pc (qw_find cd_X11_write pc) ls st σ) : E_X11_write Q pc ls st σ := qw_runs qk_11_wC co_X11_write N pc _ ls st σ (fun _ h => qw_find_mem h) h
theorem mt_X11_write {Q : Option Value → qw_M → Prop} {av : List Value} {σ : qw_M} (hn : Nat.ble (lg_sl av).length 6 = true) (h : E_X11_write Q 0 (lv_args 0 av) [] σ) : qw_Mt qw_tw wC my_X11_write av σ Q := qw_Mt.of rfl (by decide +kernel) hn h
abbrev E_X12_ask (Q : Option Value → qw_M → Prop) := qw_Ev qw_tw wM qk_12 my_X12_ask Q
theorem ev_X12_ask {Q : Option Value → qw_M → Prop} {pc : Nat} {ls : qw_L} {st : List Value} {σ : qw_M} (cut : List Nat) (N : Nat) (h : qw_run qw_tw wM qk_12 my_X12_ask cd_X12_ask cut Q (E_X12_ask Q) N pc (qw_find cd_X12_ask pc) ls st σ) : E_X12_ask Q pc ls st σ := qw_runs qk_12_wM co_X12_ask N pc _ ls st σ (fun _ h => qw_find_mem h) h
theorem mt_X12_ask {Q : Option Value → qw_M → Prop} {av : List Value} {σ : qw_M} (hn : Nat.ble (lg_sl av).length 2 = true) (h : E_X12_ask Q 0 (lv_args 0 av) [] σ) : qw_Mt qw_tw wM my_X12_ask av σ Q := qw_Mt.of rfl (by decide +kernel) hn h
abbrev E_X12_askOf (Q : Option Value → qw_M → Prop) := qw_Ev qw_tw wM qk_12 my_X12_askOf Q
theorem ev_X12_askOf {Q : Option Value → qw_M → Prop} {pc : Nat} {ls : qw_L} {st : List Value} {σ : qw_M} (cut : List Nat) (N : Nat) (h : qw_run qw_tw wM qk_12 my_X12_askOf cd_X12_askOf cut Q (E_X12_askOf Q) N pc (qw_find cd_X12_askOf pc) ls st σ) : E_X12_askOf Q pc ls st σ := qw_runs qk_12_wM co_X12_askOf N pc _ ls st σ (fun _ h => qw_find_mem h) h
theorem mt_X12_askOf {Q : Option Value → qw_M → Prop} {av : List Value} {σ : qw_M} (hn : Nat.ble (lg_sl av).length 9 = true) (h : E_X12_askOf Q 0 (lv_args 0 av) [] σ) : qw_Mt qw_tw wM my_X12_askOf av σ Q := qw_Mt.of rfl (by decide +kernel) hn h
abbrev E_X12_at (Q : Option Value → qw_M → Prop) := qw_Ev qw_tw wM qk_12 my_X12_at Q
theorem ev_X12_at {Q : Option Value → qw_M → Prop} {pc : Nat} {ls : qw_L} {st : List Value} {σ : qw_M} (cut : List Nat) (N : Nat) (h : qw_run qw_tw wM qk_12 my_X12_at cd_X12_at cut Q (E_X12_at Q) N pc (qw_find cd_X12_at pc) ls st σ) : E_X12_at Q pc ls st σ := qw_runs qk_12_wM co_X12_at N pc _ ls st σ (fun _ h => qw_find_mem h) h
theorem mt_X12_at {Q : Option Value → qw_M → Prop} {av : List Value} {σ : qw_M} (hn : Nat.ble (lg_sl av).length 4 = true) (h : E_X12_at Q 0 (lv_args 0 av) [] σ) : qw_Mt qw_tw wM my_X12_at av σ Q := qw_Mt.of rfl (by decide +kernel) hn h
abbrev E_X12_atOf (Q : Option Value → qw_M → Prop) := qw_Ev qw_tw wM qk_12 my_X12_atOf Q
theorem ev_X12_atOf {Q : Option Value → qw_M → Prop} {pc : Nat} {ls : qw_L} {st : List Value} {σ : qw_M} (cut : List Nat) (N : Nat) (h : qw_run qw_tw wM qk_12 my_X12_atOf cd_X12_atOf cut Q (E_X12_atOf Q) N pc (qw_find cd_X12_atOf pc) ls st σ) : E_X12_atOf Q pc ls st σ := qw_runs qk_12_wM co_X12_atOf N pc _ ls st σ (fun _ h => qw_find_mem h) h
theorem mt_X12_atOf {Q : Option Value → qw_M → Prop} {av : List Value} {σ : qw_M} (hn : Nat.ble (lg_sl av).length 8 = true) (h : E_X12_atOf Q 0 (lv_args 0 av) [] σ) : qw_Mt qw_tw wM my_X12_atOf av σ Q := qw_Mt.of rfl (by decide +kernel) hn h
abbrev E_X12_back (Q : Option Value → qw_M → Prop) := qw_Ev qw_tw wM qk_12 my_X12_back Q
theorem ev_X12_back {Q : Option Value → qw_M → Prop} {pc : Nat} {ls : qw_L} {st : List Value} {σ : qw_M} (cut : List Nat) (N : Nat) (h : qw_run qw_tw wM qk_12 my_X12_back cd_X12_back cut Q (E_X12_back Q) N pc (qw_find cd_X12_back pc) ls st σ) : E_X12_back Q pc ls st σ := qw_runs qk_12_wM co_X12_back N pc _ ls st σ (fun _ h => qw_find_mem h) h
theorem mt_X12_back {Q : Option Value → qw_M → Prop} {av : List Value} {σ : qw_M} (hn : Nat.ble (lg_sl av).length 1 = true) (h : E_X12_back Q 0 (lv_args 0 av) [] σ) : qw_Mt qw_tw wM my_X12_back av σ Q := qw_Mt.of rfl (by decide +kernel) hn h
abbrev E_X12_blank (Q : Option Value → qw_M → Prop) := qw_Ev qw_tw wM qk_12 my_X12_blank Q
theorem ev_X12_blank {Q : Option Value → qw_M → Prop} {pc : Nat} {ls : qw_L} {st : List Value} {σ : qw_M} (cut : List Nat) (N : Nat) (h : qw_run qw_tw wM qk_12 my_X12_blank cd_X12_blank cut Q (E_X12_blank Q) N pc (qw_find cd_X12_blank pc) ls st σ) : E_X12_blank Q pc ls st σ := qw_runs qk_12_wM co_X12_blank N pc _ ls st σ (fun _ h => qw_find_mem h) h
theorem mt_X12_blank {Q : Option Value → qw_M → Prop} {av : List Value} {σ : qw_M} (hn : Nat.ble (lg_sl av).length 3 = true) (h : E_X12_blank Q 0 (lv_args 0 av) [] σ) : qw_Mt qw_tw wM my_X12_blank av σ Q := qw_Mt.of rfl (by decide +kernel) hn h
abbrev E_X12_cellsTold (Q : Option Value → qw_M → Prop) := qw_Ev qw_tw wM qk_12 my_X12_cellsTold Q
theorem ev_X12_cellsTold {Q : Option Value → qw_M → Prop} {pc : Nat} {ls : qw_L} {st : List Value} {σ : qw_M} (cut : List Nat) (N : Nat) (h : qw_run qw_tw wM qk_12 my_X12_cellsTold cd_X12_cellsTold cut Q (E_X12_cellsTold Q) N pc (qw_find cd_X12_cellsTold pc) ls st σ) : E_X12_cellsTold Q pc ls st σ := qw_runs qk_12_wM co_X12_cellsTold N pc _ ls st σ (fun _ h => qw_find_mem h) h
theorem mt_X12_cellsTold {Q : Option Value → qw_M → Prop} {av : List Value} {σ : qw_M} (hn : Nat.ble (lg_sl av).length 3 = true) (h : E_X12_cellsTold Q 0 (lv_args 0 av) [] σ) : qw_Mt qw_tw wM my_X12_cellsTold av σ Q := qw_Mt.of rfl (by decide +kernel) hn h
abbrev E_X12_colourBy (Q : Option Value → qw_M → Prop) := qw_Ev qw_tw wM qk_12 my_X12_colourBy Q
theorem ev_X12_colourBy {Q : Option Value → qw_M → Prop} {pc : Nat} {ls : qw_L} {st : List Value} {σ : qw_M} (cut : List Nat) (N : Nat) (h : qw_run qw_tw wM qk_12 my_X12_colourBy cd_X12_colourBy cut Q (E_X12_colourBy Q) N pc (qw_find cd_X12_colourBy pc) ls st σ) : E_X12_colourBy Q pc ls st σ := qw_runs qk_12_wM co_X12_colourBy N pc _ ls st σ (fun _ h => qw_find_mem h) h
theorem mt_X12_colourBy {Q : Option Value → qw_M → Prop} {av : List Value} {σ : qw_M} (hn : Nat.ble (lg_sl av).length 5 = true) (h : E_X12_colourBy Q 0 (lv_args 0 av) [] σ) : qw_Mt qw_tw wM my_X12_colourBy av σ Q := qw_Mt.of rfl (by decide +kernel) hn h
abbrev E_X12_colourOf (Q : Option Value → qw_M → Prop) := qw_Ev qw_tw wM qk_12 my_X12_colourOf Q
theorem ev_X12_colourOf {Q : Option Value → qw_M → Prop} {pc : Nat} {ls : qw_L} {st : List Value} {σ : qw_M} (cut : List Nat) (N : Nat) (h : qw_run qw_tw wM qk_12 my_X12_colourOf cd_X12_colourOf cut Q (E_X12_colourOf Q) N pc (qw_find cd_X12_colourOf pc) ls st σ) : E_X12_colourOf Q pc ls st σ := qw_runs qk_12_wM co_X12_colourOf N pc _ ls st σ (fun _ h => qw_find_mem h) h
theorem mt_X12_colourOf {Q : Option Value → qw_M → Prop} {av : List Value} {σ : qw_M} (hn : Nat.ble (lg_sl av).length 1 = true) (h : E_X12_colourOf Q 0 (lv_args 0 av) [] σ) : qw_Mt qw_tw wM my_X12_colourOf av σ Q := qw_Mt.of rfl (by decide +kernel) hn h
abbrev E_X12_copy (Q : Option Value → qw_M → Prop) := qw_Ev qw_tw wM qk_12 my_X12_copy Q
theorem ev_X12_copy {Q : Option Value → qw_M → Prop} {pc : Nat} {ls : qw_L} {st : List Value} {σ : qw_M} (cut : List Nat) (N : Nat) (h : qw_run qw_tw wM qk_12 my_X12_copy cd_X12_copy cut Q (E_X12_copy Q) N pc (qw_find cd_X12_copy pc) ls st σ) : E_X12_copy Q pc ls st σ := qw_runs qk_12_wM co_X12_copy N pc _ ls st σ (fun _ h => qw_find_mem h) h
theorem mt_X12_copy {Q : Option Value → qw_M → Prop} {av : List Value} {σ : qw_M} (hn : Nat.ble (lg_sl av).length 7 = true) (h : E_X12_copy Q 0 (lv_args 0 av) [] σ) : qw_Mt qw_tw wM my_X12_copy av σ Q := qw_Mt.of rfl (by decide +kernel) hn h
abbrev E_X12_count (Q : Option Value → qw_M → Prop) := qw_Ev qw_tw wM qk_12 my_X12_count Q
theorem ev_X12_count {Q : Option Value → qw_M → Prop} {pc : Nat} {ls : qw_L} {st : List Value} {σ : qw_M} (cut : List Nat) (N : Nat) (h : qw_run qw_tw wM qk_12 my_X12_count cd_X12_count cut Q (E_X12_count Q) N pc (qw_find cd_X12_count pc) ls st σ) : E_X12_count Q pc ls st σ := qw_runs qk_12_wM co_X12_count N pc _ ls st σ (fun _ h => qw_find_mem h) h
theorem mt_X12_count {Q : Option Value → qw_M → Prop} {av : List Value} {σ : qw_M} (hn : Nat.ble (lg_sl av).length 2 = true) (h : E_X12_count Q 0 (lv_args 0 av) [] σ) : qw_Mt qw_tw wM my_X12_count av σ Q := qw_Mt.of rfl (by decide +kernel) hn h
abbrev E_X12_covers (Q : Option Value → qw_M → Prop) := qw_Ev qw_tw wM qk_12 my_X12_covers Q
theorem ev_X12_covers {Q : Option Value → qw_M → Prop} {pc : Nat} {ls : qw_L} {st : List Value} {σ : qw_M} (cut : List Nat) (N : Nat) (h : qw_run qw_tw wM qk_12 my_X12_covers cd_X12_covers cut Q (E_X12_covers Q) N pc (qw_find cd_X12_covers pc) ls st σ) : E_X12_covers Q pc ls st σ := qw_runs qk_12_wM co_X12_covers N pc _ ls st σ (fun _ h => qw_find_mem h) h
theorem mt_X12_covers {Q : Option Value → qw_M → Prop} {av : List Value} {σ : qw_M} (hn : Nat.ble (lg_sl av).length 3 = true) (h : E_X12_covers Q 0 (lv_args 0 av) [] σ) : qw_Mt qw_tw wM my_X12_covers av σ Q := qw_Mt.of rfl (by decide +kernel) hn h
abbrev E_X12_coversOf (Q : Option Value → qw_M → Prop) := qw_Ev qw_tw wM qk_12 my_X12_coversOf Q
theorem ev_X12_coversOf {Q : Option Value → qw_M → Prop} {pc : Nat} {ls : qw_L} {st : List Value} {σ : qw_M} (cut : List Nat) (N : Nat) (h : qw_run qw_tw wM qk_12 my_X12_coversOf cd_X12_coversOf cut Q (E_X12_coversOf Q) N pc (qw_find cd_X12_coversOf pc) ls st σ) : E_X12_coversOf Q pc ls st σ := qw_runs qk_12_wM co_X12_coversOf N pc _ ls st σ (fun _ h => qw_find_mem h) h
theorem mt_X12_coversOf {Q : Option Value → qw_M → Prop} {av : List Value} {σ : qw_M} (hn : Nat.ble (lg_sl av).length 5 = true) (h : E_X12_coversOf Q 0 (lv_args 0 av) [] σ) : qw_Mt qw_tw wM my_X12_coversOf av σ Q := qw_Mt.of rfl (by decide +kernel) hn h
abbrev E_X12_cue (Q : Option Value → qw_M → Prop) := qw_Ev qw_tw wM qk_12 my_X12_cue Q
theorem ev_X12_cue {Q : Option Value → qw_M → Prop} {pc : Nat} {ls : qw_L} {st : List Value} {σ : qw_M} (cut : List Nat) (N : Nat) (h : qw_run qw_tw wM qk_12 my_X12_cue cd_X12_cue cut Q (E_X12_cue Q) N pc (qw_find cd_X12_cue pc) ls st σ) : E_X12_cue Q pc ls st σ := qw_runs qk_12_wM co_X12_cue N pc _ ls st σ (fun _ h => qw_find_mem h) h
theorem mt_X12_cue {Q : Option Value → qw_M → Prop} {av : List Value} {σ : qw_M} (hn : Nat.ble (lg_sl av).length 3 = true) (h : E_X12_cue Q 0 (lv_args 0 av) [] σ) : qw_Mt qw_tw wM my_X12_cue av σ Q := qw_Mt.of rfl (by decide +kernel) hn h
abbrev E_X12_cueBy (Q : Option Value → qw_M → Prop) := qw_Ev qw_tw wM qk_12 my_X12_cueBy Q
theorem ev_X12_cueBy {Q : Option Value → qw_M → Prop} {pc : Nat} {ls : qw_L} {st : List Value} {σ : qw_M} (cut : List Nat) (N : Nat) (h : qw_run qw_tw wM qk_12 my_X12_cueBy cd_X12_cueBy cut Q (E_X12_cueBy Q) N pc (qw_find cd_X12_cueBy pc) ls st σ) : E_X12_cueBy Q pc ls st σ := qw_runs qk_12_wM co_X12_cueBy N pc _ ls st σ (fun _ h => qw_find_mem h) h
theorem mt_X12_cueBy {Q : Option Value → qw_M → Prop} {av : List Value} {σ : qw_M} (hn : Nat.ble (lg_sl av).length 3 = true) (h : E_X12_cueBy Q 0 (lv_args 0 av) [] σ) : qw_Mt qw_tw wM my_X12_cueBy av σ Q := qw_Mt.of rfl (by decide +kernel) hn h
abbrev E_X12_cuesTold (Q : Option Value → qw_M → Prop) := qw_Ev qw_tw wM qk_12 my_X12_cuesTold Q
theorem ev_X12_cuesTold {Q : Option Value → qw_M → Prop} {pc : Nat} {ls : qw_L} {st : List Value} {σ : qw_M} (cut : List Nat) (N : Nat) (h : qw_run qw_tw wM qk_12 my_X12_cuesTold cd_X12_cuesTold cut Q (E_X12_cuesTold Q) N pc (qw_find cd_X12_cuesTold pc) ls st σ) : E_X12_cuesTold Q pc ls st σ := qw_runs qk_12_wM co_X12_cuesTold N pc _ ls st σ (fun _ h => qw_find_mem h) h
theorem mt_X12_cuesTold {Q : Option Value → qw_M → Prop} {av : List Value} {σ : qw_M} (hn : Nat.ble (lg_sl av).length 3 = true) (h : E_X12_cuesTold Q 0 (lv_args 0 av) [] σ) : qw_Mt qw_tw wM my_X12_cuesTold av σ Q := qw_Mt.of rfl (by decide +kernel) hn h
abbrev E_X12_cut (Q : Option Value → qw_M → Prop) := qw_Ev qw_tw wM qk_12 my_X12_cut Q
theorem ev_X12_cut {Q : Option Value → qw_M → Prop} {pc : Nat} {ls : qw_L} {st : List Value} {σ : qw_M} (cut : List Nat) (N : Nat) (h : qw_run qw_tw wM qk_12 my_X12_cut cd_X12_cut cut Q (E_X12_cut Q) N pc (qw_find cd_X12_cut pc) ls st σ) : E_X12_cut Q pc ls st σ := qw_runs qk_12_wM co_X12_cut N pc _ ls st σ (fun _ h => qw_find_mem h) h
theorem mt_X12_cut {Q : Option Value → qw_M → Prop} {av : List Value} {σ : qw_M} (hn : Nat.ble (lg_sl av).length 2 = true) (h : E_X12_cut Q 0 (lv_args 0 av) [] σ) : qw_Mt qw_tw wM my_X12_cut av σ Q := qw_Mt.of rfl (by decide +kernel) hn h
abbrev E_X12_darkOf (Q : Option Value → qw_M → Prop) := qw_Ev qw_tw wM qk_12 my_X12_darkOf Q
theorem ev_X12_darkOf {Q : Option Value → qw_M → Prop} {pc : Nat} {ls : qw_L} {st : List Value} {σ : qw_M} (cut : List Nat) (N : Nat) (h : qw_run qw_tw wM qk_12 my_X12_darkOf cd_X12_darkOf cut Q (E_X12_darkOf Q) N pc (qw_find cd_X12_darkOf pc) ls st σ) : E_X12_darkOf Q pc ls st σ := qw_runs qk_12_wM co_X12_darkOf N pc _ ls st σ (fun _ h => qw_find_mem h) h
theorem mt_X12_darkOf {Q : Option Value → qw_M → Prop} {av : List Value} {σ : qw_M} (hn : Nat.ble (lg_sl av).length 4 = true) (h : E_X12_darkOf Q 0 (lv_args 0 av) [] σ) : qw_Mt qw_tw wM my_X12_darkOf av σ Q := qw_Mt.of rfl (by decide +kernel) hn h
abbrev E_X12_darkest (Q : Option Value → qw_M → Prop) := qw_Ev qw_tw wM qk_12 my_X12_darkest Q
theorem ev_X12_darkest {Q : Option Value → qw_M → Prop} {pc : Nat} {ls : qw_L} {st : List Value} {σ : qw_M} (cut : List Nat) (N : Nat) (h : qw_run qw_tw wM qk_12 my_X12_darkest cd_X12_darkest cut Q (E_X12_darkest Q) N pc (qw_find cd_X12_darkest pc) ls st σ) : E_X12_darkest Q pc ls st σ := qw_runs qk_12_wM co_X12_darkest N pc _ ls st σ (fun _ h => qw_find_mem h) h
theorem mt_X12_darkest {Q : Option Value → qw_M → Prop} {av : List Value} {σ : qw_M} (hn : Nat.ble (lg_sl av).length 1 = true) (h : E_X12_darkest Q 0 (lv_args 0 av) [] σ) : qw_Mt qw_tw wM my_X12_darkest av σ Q := qw_Mt.of rfl (by decide +kernel) hn h
abbrev E_X12_darkestNow (Q : Option Value → qw_M → Prop) := qw_Ev qw_tw wM qk_12 my_X12_darkestNow Q
theorem ev_X12_darkestNow {Q : Option Value → qw_M → Prop} {pc : Nat} {ls : qw_L} {st : List Value} {σ : qw_M} (cut : List Nat) (N : Nat) (h : qw_run qw_tw wM qk_12 my_X12_darkestNow cd_X12_darkestNow cut Q (E_X12_darkestNow Q) N pc (qw_find cd_X12_darkestNow pc) ls st σ) : E_X12_darkestNow Q pc ls st σ := qw_runs qk_12_wM co_X12_darkestNow N pc _ ls st σ (fun _ h => qw_find_mem h) h
theorem mt_X12_darkestNow {Q : Option Value → qw_M → Prop} {av : List Value} {σ : qw_M} (hn : Nat.ble (lg_sl av).length 5 = true) (h : E_X12_darkestNow Q 0 (lv_args 0 av) [] σ) : qw_Mt qw_tw wM my_X12_darkestNow av σ Q := qw_Mt.of rfl (by decide +kernel) hn h
abbrev E_X12_deepOf (Q : Option Value → qw_M → Prop) := qw_Ev qw_tw wM qk_12 my_X12_deepOf Q
theorem ev_X12_deepOf {Q : Option Value → qw_M → Prop} {pc : Nat} {ls : qw_L} {st : List Value} {σ : qw_M} (cut : List Nat) (N : Nat) (h : qw_run qw_tw wM qk_12 my_X12_deepOf cd_X12_deepOf cut Q (E_X12_deepOf Q) N pc (qw_find cd_X12_deepOf pc) ls st σ) : E_X12_deepOf Q pc ls st σ := qw_runs qk_12_wM co_X12_deepOf N pc _ ls st σ (fun _ h => qw_find_mem h) h
theorem mt_X12_deepOf {Q : Option Value → qw_M → Prop} {av : List Value} {σ : qw_M} (hn : Nat.ble (lg_sl av).length 5 = true) (h : E_X12_deepOf Q 0 (lv_args 0 av) [] σ) : qw_Mt qw_tw wM my_X12_deepOf av σ Q := qw_Mt.of rfl (by decide +kernel) hn h
abbrev E_X12_digest (Q : Option Value → qw_M → Prop) := qw_Ev qw_tw wM qk_12 my_X12_digest Q
theorem ev_X12_digest {Q : Option Value → qw_M → Prop} {pc : Nat} {ls : qw_L} {st : List Value} {σ : qw_M} (cut : List Nat) (N : Nat) (h : qw_run qw_tw wM qk_12 my_X12_digest cd_X12_digest cut Q (E_X12_digest Q) N pc (qw_find cd_X12_digest pc) ls st σ) : E_X12_digest Q pc ls st σ := qw_runs qk_12_wM co_X12_digest N pc _ ls st σ (fun _ h => qw_find_mem h) h
theorem mt_X12_digest {Q : Option Value → qw_M → Prop} {av : List Value} {σ : qw_M} (hn : Nat.ble (lg_sl av).length 4 = true) (h : E_X12_digest Q 0 (lv_args 0 av) [] σ) : qw_Mt qw_tw wM my_X12_digest av σ Q := qw_Mt.of rfl (by decide +kernel) hn h
abbrev E_X12_falseOf (Q : Option Value → qw_M → Prop) := qw_Ev qw_tw wM qk_12 my_X12_falseOf Q
theorem ev_X12_falseOf {Q : Option Value → qw_M → Prop} {pc : Nat} {ls : qw_L} {st : List Value} {σ : qw_M} (cut : List Nat) (N : Nat) (h : qw_run qw_tw wM qk_12 my_X12_falseOf cd_X12_falseOf cut Q (E_X12_falseOf Q) N pc (qw_find cd_X12_falseOf pc) ls st σ) : E_X12_falseOf Q pc ls st σ := qw_runs qk_12_wM co_X12_falseOf N pc _ ls st σ (fun _ h => qw_find_mem h) h
theorem mt_X12_falseOf {Q : Option Value → qw_M → Prop} {av : List Value} {σ : qw_M} (hn : Nat.ble (lg_sl av).length 4 = true) (h : E_X12_falseOf Q 0 (lv_args 0 av) [] σ) : qw_Mt qw_tw wM my_X12_falseOf av σ Q := qw_Mt.of rfl (by decide +kernel) hn h
abbrev E_X12_fault (Q : Option Value → qw_M → Prop) := qw_Ev qw_tw wM qk_12 my_X12_fault Q
theorem ev_X12_fault {Q : Option Value → qw_M → Prop} {pc : Nat} {ls : qw_L} {st : List Value} {σ : qw_M} (cut : List Nat) (N : Nat) (h : qw_run qw_tw wM qk_12 my_X12_fault cd_X12_fault cut Q (E_X12_fault Q) N pc (qw_find cd_X12_fault pc) ls st σ) : E_X12_fault Q pc ls st σ := qw_runs qk_12_wM co_X12_fault N pc _ ls st σ (fun _ h => qw_find_mem h) h
theorem mt_X12_fault {Q : Option Value → qw_M → Prop} {av : List Value} {σ : qw_M} (hn : Nat.ble (lg_sl av).length 2 = true) (h : E_X12_fault Q 0 (lv_args 0 av) [] σ) : qw_Mt qw_tw wM my_X12_fault av σ Q := qw_Mt.of rfl (by decide +kernel) hn h
abbrev E_X12_figure (Q : Option Value → qw_M → Prop) := qw_Ev qw_tw wM qk_12 my_X12_figure Q
theorem ev_X12_figure {Q : Option Value → qw_M → Prop} {pc : Nat} {ls : qw_L} {st : List Value} {σ : qw_M} (cut : List Nat) (N : Nat) (h : qw_run qw_tw wM qk_12 my_X12_figure cd_X12_figure cut Q (E_X12_figure Q) N pc (qw_find cd_X12_figure pc) ls st σ) : E_X12_figure Q pc ls st σ := qw_runs qk_12_wM co_X12_figure N pc _ ls st σ (fun _ h => qw_find_mem h) h
theorem mt_X12_figure {Q : Option Value → qw_M → Prop} {av : List Value} {σ : qw_M} (hn : Nat.ble (lg_sl av).length 3 = true) (h : E_X12_figure Q 0 (lv_args 0 av) [] σ) : qw_Mt qw_tw wM my_X12_figure av σ Q := qw_Mt.of rfl (by decide +kernel) hn h
abbrev E_X12_figureBy (Q : Option Value → qw_M → Prop) := qw_Ev qw_tw wM qk_12 my_X12_figureBy Q
theorem ev_X12_figureBy {Q : Option Value → qw_M → Prop} {pc : Nat} {ls : qw_L} {st : List Value} {σ : qw_M} (cut : List Nat) (N : Nat) (h : qw_run qw_tw wM qk_12 my_X12_figureBy cd_X12_figureBy cut Q (E_X12_figureBy Q) N pc (qw_find cd_X12_figureBy pc) ls st σ) : E_X12_figureBy Q pc ls st σ := qw_runs qk_12_wM co_X12_figureBy N pc _ ls st σ (fun _ h => qw_find_mem h) h
theorem mt_X12_figureBy {Q : Option Value → qw_M → Prop} {av : List Value} {σ : qw_M} (hn : Nat.ble (lg_sl av).length 3 = true) (h : E_X12_figureBy Q 0 (lv_args 0 av) [] σ) : qw_Mt qw_tw wM my_X12_figureBy av σ Q := qw_Mt.of rfl (by decide +kernel) hn h
abbrev E_X12_figureOf (Q : Option Value → qw_M → Prop) := qw_Ev qw_tw wM qk_12 my_X12_figureOf Q
theorem ev_X12_figureOf {Q : Option Value → qw_M → Prop} {pc : Nat} {ls : qw_L} {st : List Value} {σ : qw_M} (cut : List Nat) (N : Nat) (h : qw_run qw_tw wM qk_12 my_X12_figureOf cd_X12_figureOf cut Q (E_X12_figureOf Q) N pc (qw_find cd_X12_figureOf pc) ls st σ) : E_X12_figureOf Q pc ls st σ := qw_runs qk_12_wM co_X12_figureOf N pc _ ls st σ (fun _ h => qw_find_mem h) h
theorem mt_X12_figureOf {Q : Option Value → qw_M → Prop} {av : List Value} {σ : qw_M} (hn : Nat.ble (lg_sl av).length 3 = true) (h : E_X12_figureOf Q 0 (lv_args 0 av) [] σ) : qw_Mt qw_tw wM my_X12_figureOf av σ Q := qw_Mt.of rfl (by decide +kernel) hn h
abbrev E_X12_find (Q : Option Value → qw_M → Prop) := qw_Ev qw_tw wM qk_12 my_X12_find Q
theorem ev_X12_find {Q : Option Value → qw_M → Prop} {pc : Nat} {ls : qw_L} {st : List Value} {σ : qw_M} (cut : List Nat) (N : Nat) (h : qw_run qw_tw wM qk_12 my_X12_find cd_X12_find cut Q (E_X12_find Q) N pc (qw_find cd_X12_find pc) ls st σ) : E_X12_find Q pc ls st σ := qw_runs qk_12_wM co_X12_find N pc _ ls st σ (fun _ h => qw_find_mem h) h
theorem mt_X12_find {Q : Option Value → qw_M → Prop} {av : List Value} {σ : qw_M} (hn : Nat.ble (lg_sl av).length 1 = true) (h : E_X12_find Q 0 (lv_args 0 av) [] σ) : qw_Mt qw_tw wM my_X12_find av σ Q := qw_Mt.of rfl (by decide +kernel) hn h
abbrev E_X12_finds (Q : Option Value → qw_M → Prop) := qw_Ev qw_tw wM qk_12 my_X12_finds Q
theorem ev_X12_finds {Q : Option Value → qw_M → Prop} {pc : Nat} {ls : qw_L} {st : List Value} {σ : qw_M} (cut : List Nat) (N : Nat) (h : qw_run qw_tw wM qk_12 my_X12_finds cd_X12_finds cut Q (E_X12_finds Q) N pc (qw_find cd_X12_finds pc) ls st σ) : E_X12_finds Q pc ls st σ := qw_runs qk_12_wM co_X12_finds N pc _ ls st σ (fun _ h => qw_find_mem h) h
theorem mt_X12_finds {Q : Option Value → qw_M → Prop} {av : List Value} {σ : qw_M} (hn : Nat.ble (lg_sl av).length 2 = true) (h : E_X12_finds Q 0 (lv_args 0 av) [] σ) : qw_Mt qw_tw wM my_X12_finds av σ Q := qw_Mt.of rfl (by decide +kernel) hn h
abbrev E_X12_flicker (Q : Option Value → qw_M → Prop) := qw_Ev qw_tw wM qk_12 my_X12_flicker Q
theorem ev_X12_flicker {Q : Option Value → qw_M → Prop} {pc : Nat} {ls : qw_L} {st : List Value} {σ : qw_M} (cut : List Nat) (N : Nat) (h : qw_run qw_tw wM qk_12 my_X12_flicker cd_X12_flicker cut Q (E_X12_flicker Q) N pc (qw_find cd_X12_flicker pc) ls st σ) : E_X12_flicker Q pc ls st σ := qw_runs qk_12_wM co_X12_flicker N pc _ ls st σ (fun _ h => qw_find_mem h) h
theorem mt_X12_flicker {Q : Option Value → qw_M → Prop} {av : List Value} {σ : qw_M} (hn : Nat.ble (lg_sl av).length 2 = true) (h : E_X12_flicker Q 0 (lv_args 0 av) [] σ) : qw_Mt qw_tw wM my_X12_flicker av σ Q := qw_Mt.of rfl (by decide +kernel) hn h
abbrev E_X12_forget (Q : Option Value → qw_M → Prop) := qw_Ev qw_tw wM qk_12 my_X12_forget Q
theorem ev_X12_forget {Q : Option Value → qw_M → Prop} {pc : Nat} {ls : qw_L} {st : List Value} {σ : qw_M} (cut : List Nat) (N : Nat) (h : qw_run qw_tw wM qk_12 my_X12_forget cd_X12_forget cut Q (E_X12_forget Q) N pc (qw_find cd_X12_forget pc) ls st σ) : E_X12_forget Q pc ls st σ := qw_runs qk_12_wM co_X12_forget N pc _ ls st σ (fun _ h => qw_find_mem h) h
theorem mt_X12_forget {Q : Option Value → qw_M → Prop} {av : List Value} {σ : qw_M} (hn : Nat.ble (lg_sl av).length 2 = true) (h : E_X12_forget Q 0 (lv_args 0 av) [] σ) : qw_Mt qw_tw wM my_X12_forget av σ Q := qw_Mt.of rfl (by decide +kernel) hn h
abbrev E_X12_get (Q : Option Value → qw_M → Prop) := qw_Ev qw_tw wM qk_12 my_X12_get Q
theorem ev_X12_get {Q : Option Value → qw_M → Prop} {pc : Nat} {ls : qw_L} {st : List Value} {σ : qw_M} (cut : List Nat) (N : Nat) (h : qw_run qw_tw wM qk_12 my_X12_get cd_X12_get cut Q (E_X12_get Q) N pc (qw_find cd_X12_get pc) ls st σ) : E_X12_get Q pc ls st σ := qw_runs qk_12_wM co_X12_get N pc _ ls st σ (fun _ h => qw_find_mem h) h
theorem mt_X12_get {Q : Option Value → qw_M → Prop} {av : List Value} {σ : qw_M} (hn : Nat.ble (lg_sl av).length 4 = true) (h : E_X12_get Q 0 (lv_args 0 av) [] σ) : qw_Mt qw_tw wM my_X12_get av σ Q := qw_Mt.of rfl (by decide +kernel) hn h
abbrev E_X12_goes (Q : Option Value → qw_M → Prop) := qw_Ev qw_tw wM qk_12 my_X12_goes Q
theorem ev_X12_goes {Q : Option Value → qw_M → Prop} {pc : Nat} {ls : qw_L} {st : List Value} {σ : qw_M} (cut : List Nat) (N : Nat) (h : qw_run qw_tw wM qk_12 my_X12_goes cd_X12_goes cut Q (E_X12_goes Q) N pc (qw_find cd_X12_goes pc) ls st σ) : E_X12_goes Q pc ls st σ := qw_runs qk_12_wM co_X12_goes N pc _ ls st σ (fun _ h => qw_find_mem h) h
theorem mt_X12_goes {Q : Option Value → qw_M → Prop} {av : List Value} {σ : qw_M} (hn : Nat.ble (lg_sl av).length 3 = true) (h : E_X12_goes Q 0 (lv_args 0 av) [] σ) : qw_Mt qw_tw wM my_X12_goes av σ Q := qw_Mt.of rfl (by decide +kernel) hn h
abbrev E_X12_greater (Q : Option Value → qw_M → Prop) := qw_Ev qw_tw wM qk_12 my_X12_greater Q
theorem ev_X12_greater {Q : Option Value → qw_M → Prop} {pc : Nat} {ls : qw_L} {st : List Value} {σ : qw_M} (cut : List Nat) (N : Nat) (h : qw_run qw_tw wM qk_12 my_X12_greater cd_X12_greater cut Q (E_X12_greater Q) N pc (qw_find cd_X12_greater pc) ls st σ) : E_X12_greater Q pc ls st σ := qw_runs qk_12_wM co_X12_greater N pc _ ls st σ (fun _ h => qw_find_mem h) h
theorem mt_X12_greater {Q : Option Value → qw_M → Prop} {av : List Value} {σ : qw_M} (hn : Nat.ble (lg_sl av).length 2 = true) (h : E_X12_greater Q 0 (lv_args 0 av) [] σ) : qw_Mt qw_tw wM my_X12_greater av σ Q := qw_Mt.of rfl (by decide +kernel) hn h
abbrev E_X12_hang (Q : Option Value → qw_M → Prop) := qw_Ev qw_tw wM qk_12 my_X12_hang Q
theorem ev_X12_hang {Q : Option Value → qw_M → Prop} {pc : Nat} {ls : qw_L} {st : List Value} {σ : qw_M} (cut : List Nat) (N : Nat) (h : qw_run qw_tw wM qk_12 my_X12_hang cd_X12_hang cut Q (E_X12_hang Q) N pc (qw_find cd_X12_hang pc) ls st σ) : E_X12_hang Q pc ls st σ := qw_runs qk_12_wM co_X12_hang N pc _ ls st σ (fun _ h => qw_find_mem h) h
theorem mt_X12_hang {Q : Option Value → qw_M → Prop} {av : List Value} {σ : qw_M} (hn : Nat.ble (lg_sl av).length 4 = true) (h : E_X12_hang Q 0 (lv_args 0 av) [] σ) : qw_Mt qw_tw wM my_X12_hang av σ Q := qw_Mt.of rfl (by decide +kernel) hn h
abbrev E_X12_hangOf (Q : Option Value → qw_M → Prop) := qw_Ev qw_tw wM qk_12 my_X12_hangOf Q
theorem ev_X12_hangOf {Q : Option Value → qw_M → Prop} {pc : Nat} {ls : qw_L} {st : List Value} {σ : qw_M} (cut : List Nat) (N : Nat) (h : qw_run qw_tw wM qk_12 my_X12_hangOf cd_X12_hangOf cut Q (E_X12_hangOf Q) N pc (qw_find cd_X12_hangOf pc) ls st σ) : E_X12_hangOf Q pc ls st σ := qw_runs qk_12_wM co_X12_hangOf N pc _ ls st σ (fun _ h => qw_find_mem h) h
theorem mt_X12_hangOf {Q : Option Value → qw_M → Prop} {av : List Value} {σ : qw_M} (hn : Nat.ble (lg_sl av).length 10 = true) (h : E_X12_hangOf Q 0 (lv_args 0 av) [] σ) : qw_Mt qw_tw wM my_X12_hangOf av σ Q := qw_Mt.of rfl (by decide +kernel) hn h
abbrev E_X12_in (Q : Option Value → qw_M → Prop) := qw_Ev qw_tw wM qk_12 my_X12_in Q
theorem ev_X12_in {Q : Option Value → qw_M → Prop} {pc : Nat} {ls : qw_L} {st : List Value} {σ : qw_M} (cut : List Nat) (N : Nat) (h : qw_run qw_tw wM qk_12 my_X12_in cd_X12_in cut Q (E_X12_in Q) N pc (qw_find cd_X12_in pc) ls st σ) : E_X12_in Q pc ls st σ := qw_runs qk_12_wM co_X12_in N pc _ ls st σ (fun _ h => qw_find_mem h) h
theorem mt_X12_in {Q : Option Value → qw_M → Prop} {av : List Value} {σ : qw_M} (hn : Nat.ble (lg_sl av).length 6 = true) (h : E_X12_in Q 0 (lv_args 0 av) [] σ) : qw_Mt qw_tw wM my_X12_in av σ Q := qw_Mt.of rfl (by decide +kernel) hn h
abbrev E_X12_isCell (Q : Option Value → qw_M → Prop) := qw_Ev qw_tw wM qk_12 my_X12_isCell Q
theorem ev_X12_isCell {Q : Option Value → qw_M → Prop} {pc : Nat} {ls : qw_L} {st : List Value} {σ : qw_M} (cut : List Nat) (N : Nat) (h : qw_run qw_tw wM qk_12 my_X12_isCell cd_X12_isCell cut Q (E_X12_isCell Q) N pc (qw_find cd_X12_isCell pc) ls st σ) : E_X12_isCell Q pc ls st σ := qw_runs qk_12_wM co_X12_isCell N pc _ ls st σ (fun _ h => qw_find_mem h) h
theorem mt_X12_isCell {Q : Option Value → qw_M → Prop} {av : List Value} {σ : qw_M} (hn : Nat.ble (lg_sl av).length 1 = true) (h : E_X12_isCell Q 0 (lv_args 0 av) [] σ) : qw_Mt qw_tw wM my_X12_isCell av σ Q := qw_Mt.of rfl (by decide +kernel) hn h
abbrev E_X12_isFigure (Q : Option Value → qw_M → Prop) := qw_Ev qw_tw wM qk_12 my_X12_isFigure Q
theorem ev_X12_isFigure {Q : Option Value → qw_M → Prop} {pc : Nat} {ls : qw_L} {st : List Value} {σ : qw_M} (cut : List Nat) (N : Nat) (h : qw_run qw_tw wM qk_12 my_X12_isFigure cd_X12_isFigure cut Q (E_X12_isFigure Q) N pc (qw_find cd_X12_isFigure pc) ls st σ) : E_X12_isFigure Q pc ls st σ := qw_runs qk_12_wM co_X12_isFigure N pc _ ls st σ (fun _ h => qw_find_mem h) h
theorem mt_X12_isFigure {Q : Option Value → qw_M → Prop} {av : List Value} {σ : qw_M} (hn : Nat.ble (lg_sl av).length 2 = true) (h : E_X12_isFigure Q 0 (lv_args 0 av) [] σ) : qw_Mt qw_tw wM my_X12_isFigure av σ Q := qw_Mt.of rfl (by decide +kernel) hn h
abbrev E_X12_isIn (Q : Option Value → qw_M → Prop) := qw_Ev qw_tw wM qk_12 my_X12_isIn Q
theorem ev_X12_isIn {Q : Option Value → qw_M → Prop} {pc : Nat} {ls : qw_L} {st : List Value} {σ : qw_M} (cut : List Nat) (N : Nat) (h : qw_run qw_tw wM qk_12 my_X12_isIn cd_X12_isIn cut Q (E_X12_isIn Q) N pc (qw_find cd_X12_isIn pc) ls st σ) : E_X12_isIn Q pc ls st σ := qw_runs qk_12_wM co_X12_isIn N pc _ ls st σ (fun _ h => qw_find_mem h) h
theorem mt_X12_isIn {Q : Option Value → qw_M → Prop} {av : List Value} {σ : qw_M} (hn : Nat.ble (lg_sl av).length 2 = true) (h : E_X12_isIn Q 0 (lv_args 0 av) [] σ) : qw_Mt qw_tw wM my_X12_isIn av σ Q := qw_Mt.of rfl (by decide +kernel) hn h
abbrev E_X12_isOut (Q : Option Value → qw_M → Prop) := qw_Ev qw_tw wM qk_12 my_X12_isOut Q
theorem ev_X12_isOut {Q : Option Value → qw_M → Prop} {pc : Nat} {ls : qw_L} {st : List Value} {σ : qw_M} (cut : List Nat) (N : Nat) (h : qw_run qw_tw wM qk_12 my_X12_isOut cd_X12_isOut cut Q (E_X12_isOut Q) N pc (qw_find cd_X12_isOut pc) ls st σ) : E_X12_isOut Q pc ls st σ := qw_runs qk_12_wM co_X12_isOut N pc _ ls st σ (fun _ h => qw_find_mem h) h
theorem mt_X12_isOut {Q : Option Value → qw_M → Prop} {av : List Value} {σ : qw_M} (hn : Nat.ble (lg_sl av).length 4 = true) (h : E_X12_isOut Q 0 (lv_args 0 av) [] σ) : qw_Mt qw_tw wM my_X12_isOut av σ Q := qw_Mt.of rfl (by decide +kernel) hn h
abbrev E_X12_isOver (Q : Option Value → qw_M → Prop) := qw_Ev qw_tw wM qk_12 my_X12_isOver Q
theorem ev_X12_isOver {Q : Option Value → qw_M → Prop} {pc : Nat} {ls : qw_L} {st : List Value} {σ : qw_M} (cut : List Nat) (N : Nat) (h : qw_run qw_tw wM qk_12 my_X12_isOver cd_X12_isOver cut Q (E_X12_isOver Q) N pc (qw_find cd_X12_isOver pc) ls st σ) : E_X12_isOver Q pc ls st σ := qw_runs qk_12_wM co_X12_isOver N pc _ ls st σ (fun _ h => qw_find_mem h) h
theorem mt_X12_isOver {Q : Option Value → qw_M → Prop} {av : List Value} {σ : qw_M} (hn : Nat.ble (lg_sl av).length 5 = true) (h : E_X12_isOver Q 0 (lv_args 0 av) [] σ) : qw_Mt qw_tw wM my_X12_isOver av σ Q := qw_Mt.of rfl (by decide +kernel) hn h
abbrev E_X12_isSeen (Q : Option Value → qw_M → Prop) := qw_Ev qw_tw wM qk_12 my_X12_isSeen Q
theorem ev_X12_isSeen {Q : Option Value → qw_M → Prop} {pc : Nat} {ls : qw_L} {st : List Value} {σ : qw_M} (cut : List Nat) (N : Nat) (h : qw_run qw_tw wM qk_12 my_X12_isSeen cd_X12_isSeen cut Q (E_X12_isSeen Q) N pc (qw_find cd_X12_isSeen pc) ls st σ) : E_X12_isSeen Q pc ls st σ := qw_runs qk_12_wM co_X12_isSeen N pc _ ls st σ (fun _ h => qw_find_mem h) h
theorem mt_X12_isSeen {Q : Option Value → qw_M → Prop} {av : List Value} {σ : qw_M} (hn : Nat.ble (lg_sl av).length 3 = true) (h : E_X12_isSeen Q 0 (lv_args 0 av) [] σ) : qw_Mt qw_tw wM my_X12_isSeen av σ Q := qw_Mt.of rfl (by decide +kernel) hn h
abbrev E_X12_isSheet (Q : Option Value → qw_M → Prop) := qw_Ev qw_tw wM qk_12 my_X12_isSheet Q
theorem ev_X12_isSheet {Q : Option Value → qw_M → Prop} {pc : Nat} {ls : qw_L} {st : List Value} {σ : qw_M} (cut : List Nat) (N : Nat) (h : qw_run qw_tw wM qk_12 my_X12_isSheet cd_X12_isSheet cut Q (E_X12_isSheet Q) N pc (qw_find cd_X12_isSheet pc) ls st σ) : E_X12_isSheet Q pc ls st σ := qw_runs qk_12_wM co_X12_isSheet N pc _ ls st σ (fun _ h => qw_find_mem h) h
theorem mt_X12_isSheet {Q : Option Value → qw_M → Prop} {av : List Value} {σ : qw_M} (hn : Nat.ble (lg_sl av).length 1 = true) (h : E_X12_isSheet Q 0 (lv_args 0 av) [] σ) : qw_Mt qw_tw wM my_X12_isSheet av σ Q := qw_Mt.of rfl (by decide +kernel) hn h
abbrev E_X12_isShown (Q : Option Value → qw_M → Prop) := qw_Ev qw_tw wM qk_12 my_X12_isShown Q
theorem ev_X12_isShown {Q : Option Value → qw_M → Prop} {pc : Nat} {ls : qw_L} {st : List Value} {σ : qw_M} (cut : List Nat) (N : Nat) (h : qw_run qw_tw wM qk_12 my_X12_isShown cd_X12_isShown cut Q (E_X12_isShown Q) N pc (qw_find cd_X12_isShown pc) ls st σ) : E_X12_isShown Q pc ls st σ := qw_runs qk_12_wM co_X12_isShown N pc _ ls st σ (fun _ h => qw_find_mem h) h
theorem mt_X12_isShown {Q : Option Value → qw_M → Prop} {av : List Value} {σ : qw_M} (hn : Nat.ble (lg_sl av).length 2 = true) (h : E_X12_isShown Q 0 (lv_args 0 av) [] σ) : qw_Mt qw_tw wM my_X12_isShown av σ Q := qw_Mt.of rfl (by decide +kernel) hn h
abbrev E_X12_isShownBy (Q : Option Value → qw_M → Prop) := qw_Ev qw_tw wM qk_12 my_X12_isShownBy Q
theorem ev_X12_isShownBy {Q : Option Value → qw_M → Prop} {pc : Nat} {ls : qw_L} {st : List Value} {σ : qw_M} (cut : List Nat) (N : Nat) (h : qw_run qw_tw wM qk_12 my_X12_isShownBy cd_X12_isShownBy cut Q (E_X12_isShownBy Q) N pc (qw_find cd_X12_isShownBy pc) ls st σ) : E_X12_isShownBy Q pc ls st σ := qw_runs qk_12_wM co_X12_isShownBy N pc _ ls st σ (fun _ h => qw_find_mem h) h
theorem mt_X12_isShownBy {Q : Option Value → qw_M → Prop} {av : List Value} {σ : qw_M} (hn : Nat.ble (lg_sl av).length 3 = true) (h : E_X12_isShownBy Q 0 (lv_args 0 av) [] σ) : qw_Mt qw_tw wM my_X12_isShownBy av σ Q := qw_Mt.of rfl (by decide +kernel) hn h
abbrev E_X12_isShownWithout (Q : Option Value → qw_M → Prop) := qw_Ev qw_tw wM qk_12 my_X12_isShownWithout Q
theorem ev_X12_isShownWithout {Q : Option Value → qw_M → Prop} {pc : Nat} {ls : qw_L} {st : List Value} {σ : qw_M} (cut : List Nat) (N : Nat) (h : qw_run qw_tw wM qk_12 my_X12_isShownWithout cd_X12_isShownWithout cut Q (E_X12_isShownWithout Q) N pc (qw_find cd_X12_isShownWithout pc) ls st σ) : E_X12_isShownWithout Q pc ls st σ := qw_runs qk_12_wM co_X12_isShownWithout N pc _ ls st σ (fun _ h => qw_find_mem h) h
theorem mt_X12_isShownWithout {Q : Option Value → qw_M → Prop} {av : List Value} {σ : qw_M} (hn : Nat.ble (lg_sl av).length 4 = true) (h : E_X12_isShownWithout Q 0 (lv_args 0 av) [] σ) : qw_Mt qw_tw wM my_X12_isShownWithout av σ Q := qw_Mt.of rfl (by decide +kernel) hn h
abbrev E_X12_isStep (Q : Option Value → qw_M → Prop) := qw_Ev qw_tw wM qk_12 my_X12_isStep Q
theorem ev_X12_isStep {Q : Option Value → qw_M → Prop} {pc : Nat} {ls : qw_L} {st : List Value} {σ : qw_M} (cut : List Nat) (N : Nat) (h : qw_run qw_tw wM qk_12 my_X12_isStep cd_X12_isStep cut Q (E_X12_isStep Q) N pc (qw_find cd_X12_isStep pc) ls st σ) : E_X12_isStep Q pc ls st σ := qw_runs qk_12_wM co_X12_isStep N pc _ ls st σ (fun _ h => qw_find_mem h) h
theorem mt_X12_isStep {Q : Option Value → qw_M → Prop} {av : List Value} {σ : qw_M} (hn : Nat.ble (lg_sl av).length 1 = true) (h : E_X12_isStep Q 0 (lv_args 0 av) [] σ) : qw_Mt qw_tw wM my_X12_isStep av σ Q := qw_Mt.of rfl (by decide +kernel) hn h
abbrev E_X12_isText (Q : Option Value → qw_M → Prop) := qw_Ev qw_tw wM qk_12 my_X12_isText Q
theorem ev_X12_isText {Q : Option Value → qw_M → Prop} {pc : Nat} {ls : qw_L} {st : List Value} {σ : qw_M} (cut : List Nat) (N : Nat) (h : qw_run qw_tw wM qk_12 my_X12_isText cd_X12_isText cut Q (E_X12_isText Q) N pc (qw_find cd_X12_isText pc) ls st σ) : E_X12_isText Q pc ls st σ := qw_runs qk_12_wM co_X12_isText N pc _ ls st σ (fun _ h => qw_find_mem h) h
theorem mt_X12_isText {Q : Option Value → qw_M → Prop} {av : List Value} {σ : qw_M} (hn : Nat.ble (lg_sl av).length 1 = true) (h : E_X12_isText Q 0 (lv_args 0 av) [] σ) : qw_Mt qw_tw wM my_X12_isText av σ Q := qw_Mt.of rfl (by decide +kernel) hn h
abbrev E_X12_isTouching (Q : Option Value → qw_M → Prop) := qw_Ev qw_tw wM qk_12 my_X12_isTouching Q
theorem ev_X12_isTouching {Q : Option Value → qw_M → Prop} {pc : Nat} {ls : qw_L} {st : List Value} {σ : qw_M} (cut : List Nat) (N : Nat) (h : qw_run qw_tw wM qk_12 my_X12_isTouching cd_X12_isTouching cut Q (E_X12_isTouching Q) N pc (qw_find cd_X12_isTouching pc) ls st σ) : E_X12_isTouching Q pc ls st σ := qw_runs qk_12_wM co_X12_isTouching N pc _ ls st σ (fun _ h => qw_find_mem h) h
theorem mt_X12_isTouching {Q : Option Value → qw_M → Prop} {av : List Value} {σ : qw_M} (hn : Nat.ble (lg_sl av).length 6 = true) (h : E_X12_isTouching Q 0 (lv_args 0 av) [] σ) : qw_Mt qw_tw wM my_X12_isTouching av σ Q := qw_Mt.of rfl (by decide +kernel) hn h
abbrev E_X12_isTwo (Q : Option Value → qw_M → Prop) := qw_Ev qw_tw wM qk_12 my_X12_isTwo Q
theorem ev_X12_isTwo {Q : Option Value → qw_M → Prop} {pc : Nat} {ls : qw_L} {st : List Value} {σ : qw_M} (cut : List Nat) (N : Nat) (h : qw_run qw_tw wM qk_12 my_X12_isTwo cd_X12_isTwo cut Q (E_X12_isTwo Q) N pc (qw_find cd_X12_isTwo pc) ls st σ) : E_X12_isTwo Q pc ls st σ := qw_runs qk_12_wM co_X12_isTwo N pc _ ls st σ (fun _ h => qw_find_mem h) h
theorem mt_X12_isTwo {Q : Option Value → qw_M → Prop} {av : List Value} {σ : qw_M} (hn : Nat.ble (lg_sl av).length 1 = true) (h : E_X12_isTwo Q 0 (lv_args 0 av) [] σ) : qw_Mt qw_tw wM my_X12_isTwo av σ Q := qw_Mt.of rfl (by decide +kernel) hn h
abbrev E_X12_keeps (Q : Option Value → qw_M → Prop) := qw_Ev qw_tw wM qk_12 my_X12_keeps Q
theorem ev_X12_keeps {Q : Option Value → qw_M → Prop} {pc : Nat} {ls : qw_L} {st : List Value} {σ : qw_M} (cut : List Nat) (N : Nat) (h : qw_run qw_tw wM qk_12 my_X12_keeps cd_X12_keeps cut Q (E_X12_keeps Q) N pc (qw_find cd_X12_keeps pc) ls st σ) : E_X12_keeps Q pc ls st σ := qw_runs qk_12_wM co_X12_keeps N pc _ ls st σ (fun _ h => qw_find_mem h) h
theorem mt_X12_keeps {Q : Option Value → qw_M → Prop} {av : List Value} {σ : qw_M} (hn : Nat.ble (lg_sl av).length 3 = true) (h : E_X12_keeps Q 0 (lv_args 0 av) [] σ) : qw_Mt qw_tw wM my_X12_keeps av σ Q := qw_Mt.of rfl (by decide +kernel) hn h
abbrev E_X12_lacks (Q : Option Value → qw_M → Prop) := qw_Ev qw_tw wM qk_12 my_X12_lacks Q
theorem ev_X12_lacks {Q : Option Value → qw_M → Prop} {pc : Nat} {ls : qw_L} {st : List Value} {σ : qw_M} (cut : List Nat) (N : Nat) (h : qw_run qw_tw wM qk_12 my_X12_lacks cd_X12_lacks cut Q (E_X12_lacks Q) N pc (qw_find cd_X12_lacks pc) ls st σ) : E_X12_lacks Q pc ls st σ := qw_runs qk_12_wM co_X12_lacks N pc _ ls st σ (fun _ h => qw_find_mem h) h
theorem mt_X12_lacks {Q : Option Value → qw_M → Prop} {av : List Value} {σ : qw_M} (hn : Nat.ble (lg_sl av).length 4 = true) (h : E_X12_lacks Q 0 (lv_args 0 av) [] σ) : qw_Mt qw_tw wM my_X12_lacks av σ Q := qw_Mt.of rfl (by decide +kernel) hn h
abbrev E_X12_lamp (Q : Option Value → qw_M → Prop) := qw_Ev qw_tw wM qk_12 my_X12_lamp Q
theorem ev_X12_lamp {Q : Option Value → qw_M → Prop} {pc : Nat} {ls : qw_L} {st : List Value} {σ : qw_M} (cut : List Nat) (N : Nat) (h : qw_run qw_tw wM qk_12 my_X12_lamp cd_X12_lamp cut Q (E_X12_lamp Q) N pc (qw_find cd_X12_lamp pc) ls st σ) : E_X12_lamp Q pc ls st σ := qw_runs qk_12_wM co_X12_lamp N pc _ ls st σ (fun _ h => qw_find_mem h) h
theorem mt_X12_lamp {Q : Option Value → qw_M → Prop} {av : List Value} {σ : qw_M} (hn : Nat.ble (lg_sl av).length 3 = true) (h : E_X12_lamp Q 0 (lv_args 0 av) [] σ) : qw_Mt qw_tw wM my_X12_lamp av σ Q := qw_Mt.of rfl (by decide +kernel) hn h
abbrev E_X12_lay (Q : Option Value → qw_M → Prop) := qw_Ev qw_tw wM qk_12 my_X12_lay Q
theorem ev_X12_lay {Q : Option Value → qw_M → Prop} {pc : Nat} {ls : qw_L} {st : List Value} {σ : qw_M} (cut : List Nat) (N : Nat) (h : qw_run qw_tw wM qk_12 my_X12_lay cd_X12_lay cut Q (E_X12_lay Q) N pc (qw_find cd_X12_lay pc) ls st σ) : E_X12_lay Q pc ls st σ := qw_runs qk_12_wM co_X12_lay N pc _ ls st σ (fun _ h => qw_find_mem h) h
theorem mt_X12_lay {Q : Option Value → qw_M → Prop} {av : List Value} {σ : qw_M} (hn : Nat.ble (lg_sl av).length 6 = true) (h : E_X12_lay Q 0 (lv_args 0 av) [] σ) : qw_Mt qw_tw wM my_X12_lay av σ Q := qw_Mt.of rfl (by decide +kernel) hn h
abbrev E_X12_leave (Q : Option Value → qw_M → Prop) := qw_Ev qw_tw wM qk_12 my_X12_leave Q
theorem ev_X12_leave {Q : Option Value → qw_M → Prop} {pc : Nat} {ls : qw_L} {st : List Value} {σ : qw_M} (cut : List Nat) (N : Nat) (h : qw_run qw_tw wM qk_12 my_X12_leave cd_X12_leave cut Q (E_X12_leave Q) N pc (qw_find cd_X12_leave pc) ls st σ) : E_X12_leave Q pc ls st σ := qw_runs qk_12_wM co_X12_leave N pc _ ls st σ (fun _ h => qw_find_mem h) h
theorem mt_X12_leave {Q : Option Value → qw_M → Prop} {av : List Value} {σ : qw_M} (hn : Nat.ble (lg_sl av).length 3 = true) (h : E_X12_leave Q 0 (lv_args 0 av) [] σ) : qw_Mt qw_tw wM my_X12_leave av σ Q := qw_Mt.of rfl (by decide +kernel) hn h
abbrev E_X12_leaveOf (Q : Option Value → qw_M → Prop) := qw_Ev qw_tw wM qk_12 my_X12_leaveOf Q
theorem ev_X12_leaveOf {Q : Option Value → qw_M → Prop} {pc : Nat} {ls : qw_L} {st : List Value} {σ : qw_M} (cut : List Nat) (N : Nat) (h : qw_run qw_tw wM qk_12 my_X12_leaveOf cd_X12_leaveOf cut Q (E_X12_leaveOf Q) N pc (qw_find cd_X12_leaveOf pc) ls st σ) : E_X12_leaveOf Q pc ls st σ := qw_runs qk_12_wM co_X12_leaveOf N pc _ ls st σ (fun _ h => qw_find_mem h) h
theorem mt_X12_leaveOf {Q : Option Value → qw_M → Prop} {av : List Value} {σ : qw_M} (hn : Nat.ble (lg_sl av).length 5 = true) (h : E_X12_leaveOf Q 0 (lv_args 0 av) [] σ) : qw_Mt qw_tw wM my_X12_leaveOf av σ Q := qw_Mt.of rfl (by decide +kernel) hn h
abbrev E_X12_lesser (Q : Option Value → qw_M → Prop) := qw_Ev qw_tw wM qk_12 my_X12_lesser Q
theorem ev_X12_lesser {Q : Option Value → qw_M → Prop} {pc : Nat} {ls : qw_L} {st : List Value} {σ : qw_M} (cut : List Nat) (N : Nat) (h : qw_run qw_tw wM qk_12 my_X12_lesser cd_X12_lesser cut Q (E_X12_lesser Q) N pc (qw_find cd_X12_lesser pc) ls st σ) : E_X12_lesser Q pc ls st σ := qw_runs qk_12_wM co_X12_lesser N pc _ ls st σ (fun _ h => qw_find_mem h) h
theorem mt_X12_lesser {Q : Option Value → qw_M → Prop} {av : List Value} {σ : qw_M} (hn : Nat.ble (lg_sl av).length 2 = true) (h : E_X12_lesser Q 0 (lv_args 0 av) [] σ) : qw_Mt qw_tw wM my_X12_lesser av σ Q := qw_Mt.of rfl (by decide +kernel) hn h
abbrev E_X12_light (Q : Option Value → qw_M → Prop) := qw_Ev qw_tw wM qk_12 my_X12_light Q
theorem ev_X12_light {Q : Option Value → qw_M → Prop} {pc : Nat} {ls : qw_L} {st : List Value} {σ : qw_M} (cut : List Nat) (N : Nat) (h : qw_run qw_tw wM qk_12 my_X12_light cd_X12_light cut Q (E_X12_light Q) N pc (qw_find cd_X12_light pc) ls st σ) : E_X12_light Q pc ls st σ := qw_runs qk_12_wM co_X12_light N pc _ ls st σ (fun _ h => qw_find_mem h) h
theorem mt_X12_light {Q : Option Value → qw_M → Prop} {av : List Value} {σ : qw_M} (hn : Nat.ble (lg_sl av).length 3 = true) (h : E_X12_light Q 0 (lv_args 0 av) [] σ) : qw_Mt qw_tw wM my_X12_light av σ Q := qw_Mt.of rfl (by decide +kernel) hn h
abbrev E_X12_lightOf (Q : Option Value → qw_M → Prop) := qw_Ev qw_tw wM qk_12 my_X12_lightOf Q
theorem ev_X12_lightOf {Q : Option Value → qw_M → Prop} {pc : Nat} {ls : qw_L} {st : List Value} {σ : qw_M} (cut : List Nat) (N : Nat) (h : qw_run qw_tw wM qk_12 my_X12_lightOf cd_X12_lightOf cut Q (E_X12_lightOf Q) N pc (qw_find cd_X12_lightOf pc) ls st σ) : E_X12_lightOf Q pc ls st σ := qw_runs qk_12_wM co_X12_lightOf N pc _ ls st σ (fun _ h => qw_find_mem h) h
theorem mt_X12_lightOf {Q : Option Value → qw_M → Prop} {av : List Value} {σ : qw_M} (hn : Nat.ble (lg_sl av).length 5 = true) (h : E_X12_lightOf Q 0 (lv_args 0 av) [] σ) : qw_Mt qw_tw wM my_X12_lightOf av σ Q := qw_Mt.of rfl (by decide +kernel) hn h
abbrev E_X12_lives (Q : Option Value → qw_M → Prop) := qw_Ev qw_tw wM qk_12 my_X12_lives Q
theorem ev_X12_lives {Q : Option Value → qw_M → Prop} {pc : Nat} {ls : qw_L} {st : List Value} {σ : qw_M} (cut : List Nat) (N : Nat) (h : qw_run qw_tw wM qk_12 my_X12_lives cd_X12_lives cut Q (E_X12_lives Q) N pc (qw_find cd_X12_lives pc) ls st σ) : E_X12_lives Q pc ls st σ := qw_runs qk_12_wM co_X12_lives N pc _ ls st σ (fun _ h => qw_find_mem h) h
theorem mt_X12_lives {Q : Option Value → qw_M → Prop} {av : List Value} {σ : qw_M} (hn : Nat.ble (lg_sl av).length 2 = true) (h : E_X12_lives Q 0 (lv_args 0 av) [] σ) : qw_Mt qw_tw wM my_X12_lives av σ Q := qw_Mt.of rfl (by decide +kernel) hn h
abbrev E_X12_lose (Q : Option Value → qw_M → Prop) := qw_Ev qw_tw wM qk_12 my_X12_lose Q
theorem ev_X12_lose {Q : Option Value → qw_M → Prop} {pc : Nat} {ls : qw_L} {st : List Value} {σ : qw_M} (cut : List Nat) (N : Nat) (h : qw_run qw_tw wM qk_12 my_X12_lose cd_X12_lose cut Q (E_X12_lose Q) N pc (qw_find cd_X12_lose pc) ls st σ) : E_X12_lose Q pc ls st σ := qw_runs qk_12_wM co_X12_lose N pc _ ls st σ (fun _ h => qw_find_mem h) h
theorem mt_X12_lose {Q : Option Value → qw_M → Prop} {av : List Value} {σ : qw_M} (hn : Nat.ble (lg_sl av).length 2 = true) (h : E_X12_lose Q 0 (lv_args 0 av) [] σ) : qw_Mt qw_tw wM my_X12_lose av σ Q := qw_Mt.of rfl (by decide +kernel) hn h
abbrev E_X12_lot (Q : Option Value → qw_M → Prop) := qw_Ev qw_tw wM qk_12 my_X12_lot Q
theorem ev_X12_lot {Q : Option Value → qw_M → Prop} {pc : Nat} {ls : qw_L} {st : List Value} {σ : qw_M} (cut : List Nat) (N : Nat) (h : qw_run qw_tw wM qk_12 my_X12_lot cd_X12_lot cut Q (E_X12_lot Q) N pc (qw_find cd_X12_lot pc) ls st σ) : E_X12_lot Q pc ls st σ := qw_runs qk_12_wM co_X12_lot N pc _ ls st σ (fun _ h => qw_find_mem h) h
theorem mt_X12_lot {Q : Option Value → qw_M → Prop} {av : List Value} {σ : qw_M} (hn : Nat.ble (lg_sl av).length 2 = true) (h : E_X12_lot Q 0 (lv_args 0 av) [] σ) : qw_Mt qw_tw wM my_X12_lot av σ Q := qw_Mt.of rfl (by decide +kernel) hn h
abbrev E_X12_more (Q : Option Value → qw_M → Prop) := qw_Ev qw_tw wM qk_12 my_X12_more Q
theorem ev_X12_more {Q : Option Value → qw_M → Prop} {pc : Nat} {ls : qw_L} {st : List Value} {σ : qw_M} (cut : List Nat) (N : Nat) (h : qw_run qw_tw wM qk_12 my_X12_more cd_X12_more cut Q (E_X12_more Q) N pc (qw_find cd_X12_more pc) ls st σ) : E_X12_more Q pc ls st σ := qw_runs qk_12_wM co_X12_more N pc _ ls st σ (fun _ h => qw_find_mem h) h
theorem mt_X12_more {Q : Option Value → qw_M → Prop} {av : List Value} {σ : qw_M} (hn : Nat.ble (lg_sl av).length 2 = true) (h : E_X12_more Q 0 (lv_args 0 av) [] σ) : qw_Mt qw_tw wM my_X12_more av σ Q := qw_Mt.of rfl (by decide +kernel) hn h
abbrev E_X12_moreOf (Q : Option Value → qw_M → Prop) := qw_Ev qw_tw wM qk_12 my_X12_moreOf Q
theorem ev_X12_moreOf {Q : Option Value → qw_M → Prop} {pc : Nat} {ls : qw_L} {st : List Value} {σ : qw_M} (cut : List Nat) (N : Nat) (h : qw_run qw_tw wM qk_12 my_X12_moreOf cd_X12_moreOf cut Q (E_X12_moreOf Q) N pc (qw_find cd_X12_moreOf pc) ls st σ) : E_X12_moreOf Q pc ls st σ := qw_runs qk_12_wM co_X12_moreOf N pc _ ls st σ (fun _ h => qw_find_mem h) h
theorem mt_X12_moreOf {Q : Option Value → qw_M → Prop} {av : List Value} {σ : qw_M} (hn : Nat.ble (lg_sl av).length 4 = true) (h : E_X12_moreOf Q 0 (lv_args 0 av) [] σ) : qw_Mt qw_tw wM my_X12_moreOf av σ Q := qw_Mt.of rfl (by decide +kernel) hn h
abbrev E_X12_never (Q : Option Value → qw_M → Prop) := qw_Ev qw_tw wM qk_12 my_X12_never Q
theorem ev_X12_never {Q : Option Value → qw_M → Prop} {pc : Nat} {ls : qw_L} {st : List Value} {σ : qw_M} (cut : List Nat) (N : Nat) (h : qw_run qw_tw wM qk_12 my_X12_never cd_X12_never cut Q (E_X12_never Q) N pc (qw_find cd_X12_never pc) ls st σ) : E_X12_never Q pc ls st σ := qw_runs qk_12_wM co_X12_never N pc _ ls st σ (fun _ h => qw_find_mem h) h
theorem mt_X12_never {Q : Option Value → qw_M → Prop} {av : List Value} {σ : qw_M} (hn : Nat.ble (lg_sl av).length 1 = true) (h : E_X12_never Q 0 (lv_args 0 av) [] σ) : qw_Mt qw_tw wM my_X12_never av σ Q := qw_Mt.of rfl (by decide +kernel) hn h
abbrev E_X12_neverNow (Q : Option Value → qw_M → Prop) := qw_Ev qw_tw wM qk_12 my_X12_neverNow Q
theorem ev_X12_neverNow {Q : Option Value → qw_M → Prop} {pc : Nat} {ls : qw_L} {st : List Value} {σ : qw_M} (cut : List Nat) (N : Nat) (h : qw_run qw_tw wM qk_12 my_X12_neverNow cd_X12_neverNow cut Q (E_X12_neverNow Q) N pc (qw_find cd_X12_neverNow pc) ls st σ) : E_X12_neverNow Q pc ls st σ := qw_runs qk_12_wM co_X12_neverNow N pc _ ls st σ (fun _ h => qw_find_mem h) h
theorem mt_X12_neverNow {Q : Option Value → qw_M → Prop} {av : List Value} {σ : qw_M} (hn : Nat.ble (lg_sl av).length 3 = true) (h : E_X12_neverNow Q 0 (lv_args 0 av) [] σ) : qw_Mt qw_tw wM my_X12_neverNow av σ Q := qw_Mt.of rfl (by decide +kernel) hn h
abbrev E_X12_no (Q : Option Value → qw_M → Prop) := qw_Ev qw_tw wM qk_12 my_X12_no Q
theorem ev_X12_no {Q : Option Value → qw_M → Prop} {pc : Nat} {ls : qw_L} {st : List Value} {σ : qw_M} (cut : List Nat) (N : Nat) (h : qw_run qw_tw wM qk_12 my_X12_no cd_X12_no cut Q (E_X12_no Q) N pc (qw_find cd_X12_no pc) ls st σ) : E_X12_no Q pc ls st σ := qw_runs qk_12_wM co_X12_no N pc _ ls st σ (fun _ h => qw_find_mem h) h
theorem mt_X12_no {Q : Option Value → qw_M → Prop} {av : List Value} {σ : qw_M} (hn : Nat.ble (lg_sl av).length 1 = true) (h : E_X12_no Q 0 (lv_args 0 av) [] σ) : qw_Mt qw_tw wM my_X12_no av σ Q := qw_Mt.of rfl (by decide +kernel) hn h
abbrev E_X12_part (Q : Option Value → qw_M → Prop) := qw_Ev qw_tw wM qk_12 my_X12_part Q
theorem ev_X12_part {Q : Option Value → qw_M → Prop} {pc : Nat} {ls : qw_L} {st : List Value} {σ : qw_M} (cut : List Nat) (N : Nat) (h : qw_run qw_tw wM qk_12 my_X12_part cd_X12_part cut Q (E_X12_part Q) N pc (qw_find cd_X12_part pc) ls st σ) : E_X12_part Q pc ls st σ := qw_runs qk_12_wM co_X12_part N pc _ ls st σ (fun _ h => qw_find_mem h) h
theorem mt_X12_part {Q : Option Value → qw_M → Prop} {av : List Value} {σ : qw_M} (hn : Nat.ble (lg_sl av).length 11 = true) (h : E_X12_part Q 0 (lv_args 0 av) [] σ) : qw_Mt qw_tw wM my_X12_part av σ Q := qw_Mt.of rfl (by decide +kernel) hn h
abbrev E_X12_partOf (Q : Option Value → qw_M → Prop) := qw_Ev qw_tw wM qk_12 my_X12_partOf Q
theorem ev_X12_partOf {Q : Option Value → qw_M → Prop} {pc : Nat} {ls : qw_L} {st : List Value} {σ : qw_M} (cut : List Nat) (N : Nat) (h : qw_run qw_tw wM qk_12 my_X12_partOf cd_X12_partOf cut Q (E_X12_partOf Q) N pc (qw_find cd_X12_partOf pc) ls st σ) : E_X12_partOf Q pc ls st σ := qw_runs qk_12_wM co_X12_partOf N pc _ ls st σ (fun _ h => qw_find_mem h) h
theorem mt_X12_partOf {Q : Option Value → qw_M → Prop} {av : List Value} {σ : qw_M} (hn : Nat.ble (lg_sl av).length 3 = true) (h : E_X12_partOf Q 0 (lv_args 0 av) [] σ) : qw_Mt qw_tw wM my_X12_partOf av σ Q := qw_Mt.of rfl (by decide +kernel) hn h
abbrev E_X12_picture (Q : Option Value → qw_M → Prop) := qw_Ev qw_tw wM qk_12 my_X12_picture Q
theorem ev_X12_picture {Q : Option Value → qw_M → Prop} {pc : Nat} {ls : qw_L} {st : List Value} {σ : qw_M} (cut : List Nat) (N : Nat) (h : qw_run qw_tw wM qk_12 my_X12_picture cd_X12_picture cut Q (E_X12_picture Q) N pc (qw_find cd_X12_picture pc) ls st σ) : E_X12_picture Q pc ls st σ := qw_runs qk_12_wM co_X12_picture N pc _ ls st σ (fun _ h => qw_find_mem h) h
theorem mt_X12_picture {Q : Option Value → qw_M → Prop} {av : List Value} {σ : qw_M} (hn : Nat.ble (lg_sl av).length 2 = true) (h : E_X12_picture Q 0 (lv_args 0 av) [] σ) : qw_Mt qw_tw wM my_X12_picture av σ Q := qw_Mt.of rfl (by decide +kernel) hn h
abbrev E_X12_play (Q : Option Value → qw_M → Prop) := qw_Ev qw_tw wM qk_12 my_X12_play Q
theorem ev_X12_play {Q : Option Value → qw_M → Prop} {pc : Nat} {ls : qw_L} {st : List Value} {σ : qw_M} (cut : List Nat) (N : Nat) (h : qw_run qw_tw wM qk_12 my_X12_play cd_X12_play cut Q (E_X12_play Q) N pc (qw_find cd_X12_play pc) ls st σ) : E_X12_play Q pc ls st σ := qw_runs qk_12_wM co_X12_play N pc _ ls st σ (fun _ h => qw_find_mem h) h
theorem mt_X12_play {Q : Option Value → qw_M → Prop} {av : List Value} {σ : qw_M} (hn : Nat.ble (lg_sl av).length 4 = true) (h : E_X12_play Q 0 (lv_args 0 av) [] σ) : qw_Mt qw_tw wM my_X12_play av σ Q := qw_Mt.of rfl (by decide +kernel) hn h
abbrev E_X12_playOf (Q : Option Value → qw_M → Prop) := qw_Ev qw_tw wM qk_12 my_X12_playOf Q
theorem ev_X12_playOf {Q : Option Value → qw_M → Prop} {pc : Nat} {ls : qw_L} {st : List Value} {σ : qw_M} (cut : List Nat) (N : Nat) (h : qw_run qw_tw wM qk_12 my_X12_playOf cd_X12_playOf cut Q (E_X12_playOf Q) N pc (qw_find cd_X12_playOf pc) ls st σ) : E_X12_playOf Q pc ls st σ := qw_runs qk_12_wM co_X12_playOf N pc _ ls st σ (fun _ h => qw_find_mem h) h
theorem mt_X12_playOf {Q : Option Value → qw_M → Prop} {av : List Value} {σ : qw_M} (hn : Nat.ble (lg_sl av).length 5 = true) (h : E_X12_playOf Q 0 (lv_args 0 av) [] σ) : qw_Mt qw_tw wM my_X12_playOf av σ Q := qw_Mt.of rfl (by decide +kernel) hn h
abbrev E_X12_read (Q : Option Value → qw_M → Prop) := qw_Ev qw_tw wM qk_12 my_X12_read Q
theorem ev_X12_read {Q : Option Value → qw_M → Prop} {pc : Nat} {ls : qw_L} {st : List Value} {σ : qw_M} (cut : List Nat) (N : Nat) (h : qw_run qw_tw wM qk_12 my_X12_read cd_X12_read cut Q (E_X12_read Q) N pc (qw_find cd_X12_read pc) ls st σ) : E_X12_read Q pc ls st σ := qw_runs qk_12_wM co_X12_read N pc _ ls st σ (fun _ h => qw_find_mem h) h
theorem mt_X12_read {Q : Option Value → qw_M → Prop} {av : List Value} {σ : qw_M} (hn : Nat.ble (lg_sl av).length 4 = true) (h : E_X12_read Q 0 (lv_args 0 av) [] σ) : qw_Mt qw_tw wM my_X12_read av σ Q := qw_Mt.of rfl (by decide +kernel) hn h
abbrev E_X12_readsCues (Q : Option Value → qw_M → Prop) := qw_Ev qw_tw wM qk_12 my_X12_readsCues Q
theorem ev_X12_readsCues {Q : Option Value → qw_M → Prop} {pc : Nat} {ls : qw_L} {st : List Value} {σ : qw_M} (cut : List Nat) (N : Nat) (h : qw_run qw_tw wM qk_12 my_X12_readsCues cd_X12_readsCues cut Q (E_X12_readsCues Q) N pc (qw_find cd_X12_readsCues pc) ls st σ) : E_X12_readsCues Q pc ls st σ := qw_runs qk_12_wM co_X12_readsCues N pc _ ls st σ (fun _ h => qw_find_mem h) h
theorem mt_X12_readsCues {Q : Option Value → qw_M → Prop} {av : List Value} {σ : qw_M} (hn : Nat.ble (lg_sl av).length 6 = true) (h : E_X12_readsCues Q 0 (lv_args 0 av) [] σ) : qw_Mt qw_tw wM my_X12_readsCues av σ Q := qw_Mt.of rfl (by decide +kernel) hn h
abbrev E_X12_readsFigures (Q : Option Value → qw_M → Prop) := qw_Ev qw_tw wM qk_12 my_X12_readsFigures Q
theorem ev_X12_readsFigures {Q : Option Value → qw_M → Prop} {pc : Nat} {ls : qw_L} {st : List Value} {σ : qw_M} (cut : List Nat) (N : Nat) (h : qw_run qw_tw wM qk_12 my_X12_readsFigures cd_X12_readsFigures cut Q (E_X12_readsFigures Q) N pc (qw_find cd_X12_readsFigures pc) ls st σ) : E_X12_readsFigures Q pc ls st σ := qw_runs qk_12_wM co_X12_readsFigures N pc _ ls st σ (fun _ h => qw_find_mem h) h
theorem mt_X12_readsFigures {Q : Option Value → qw_M → Prop} {av : List Value} {σ : qw_M} (hn : Nat.ble (lg_sl av).length 8 = true) (h : E_X12_readsFigures Q 0 (lv_args 0 av) [] σ) : qw_Mt qw_tw wM my_X12_readsFigures av σ Q := qw_Mt.of rfl (by decide +kernel) hn h
abbrev E_X12_readsPicture (Q : Option Value → qw_M → Prop) := qw_Ev qw_tw wM qk_12 my_X12_readsPicture Q
theorem ev_X12_readsPicture {Q : Option Value → qw_M → Prop} {pc : Nat} {ls : qw_L} {st : List Value} {σ : qw_M} (cut : List Nat) (N : Nat) (h : qw_run qw_tw wM qk_12 my_X12_readsPicture cd_X12_readsPicture cut Q (E_X12_readsPicture Q) N pc (qw_find cd_X12_readsPicture pc) ls st σ) : E_X12_readsPicture Q pc ls st σ := qw_runs qk_12_wM co_X12_readsPicture N pc _ ls st σ (fun _ h => qw_find_mem h) h
theorem mt_X12_readsPicture {Q : Option Value → qw_M → Prop} {av : List Value} {σ : qw_M} (hn : Nat.ble (lg_sl av).length 3 = true) (h : E_X12_readsPicture Q 0 (lv_args 0 av) [] σ) : qw_Mt qw_tw wM my_X12_readsPicture av σ Q := qw_Mt.of rfl (by decide +kernel) hn h
abbrev E_X12_readsText (Q : Option Value → qw_M → Prop) := qw_Ev qw_tw wM qk_12 my_X12_readsText Q
theorem ev_X12_readsText {Q : Option Value → qw_M → Prop} {pc : Nat} {ls : qw_L} {st : List Value} {σ : qw_M} (cut : List Nat) (N : Nat) (h : qw_run qw_tw wM qk_12 my_X12_readsText cd_X12_readsText cut Q (E_X12_readsText Q) N pc (qw_find cd_X12_readsText pc) ls st σ) : E_X12_readsText Q pc ls st σ := qw_runs qk_12_wM co_X12_readsText N pc _ ls st σ (fun _ h => qw_find_mem h) h
theorem mt_X12_readsText {Q : Option Value → qw_M → Prop} {av : List Value} {σ : qw_M} (hn : Nat.ble (lg_sl av).length 2 = true) (h : E_X12_readsText Q 0 (lv_args 0 av) [] σ) : qw_Mt qw_tw wM my_X12_readsText av σ Q := qw_Mt.of rfl (by decide +kernel) hn h
abbrev E_X12_screen (Q : Option Value → qw_M → Prop) := qw_Ev qw_tw wM qk_12 my_X12_screen Q
theorem ev_X12_screen {Q : Option Value → qw_M → Prop} {pc : Nat} {ls : qw_L} {st : List Value} {σ : qw_M} (cut : List Nat) (N : Nat) (h : qw_run qw_tw wM qk_12 my_X12_screen cd_X12_screen cut Q (E_X12_screen Q) N pc (qw_find cd_X12_screen pc) ls st σ) : E_X12_screen Q pc ls st σ := qw_runs qk_12_wM co_X12_screen N pc _ ls st σ (fun _ h => qw_find_mem h) h
theorem mt_X12_screen {Q : Option Value → qw_M → Prop} {av : List Value} {σ : qw_M} (hn : Nat.ble (lg_sl av).length 3 = true) (h : E_X12_screen Q 0 (lv_args 0 av) [] σ) : qw_Mt qw_tw wM my_X12_screen av σ Q := qw_Mt.of rfl (by decide +kernel) hn h
abbrev E_X12_seen (Q : Option Value → qw_M → Prop) := qw_Ev qw_tw wM qk_12 my_X12_seen Q
theorem ev_X12_seen {Q : Option Value → qw_M → Prop} {pc : Nat} {ls : qw_L} {st : List Value} {σ : qw_M} (cut : List Nat) (N : Nat) (h : qw_run qw_tw wM qk_12 my_X12_seen cd_X12_seen cut Q (E_X12_seen Q) N pc (qw_find cd_X12_seen pc) ls st σ) : E_X12_seen Q pc ls st σ := qw_runs qk_12_wM co_X12_seen N pc _ ls st σ (fun _ h => qw_find_mem h) h
theorem mt_X12_seen {Q : Option Value → qw_M → Prop} {av : List Value} {σ : qw_M} (hn : Nat.ble (lg_sl av).length 4 = true) (h : E_X12_seen Q 0 (lv_args 0 av) [] σ) : qw_Mt qw_tw wM my_X12_seen av σ Q := qw_Mt.of rfl (by decide +kernel) hn h
abbrev E_X12_sheet (Q : Option Value → qw_M → Prop) := qw_Ev qw_tw wM qk_12 my_X12_sheet Q
theorem ev_X12_sheet {Q : Option Value → qw_M → Prop} {pc : Nat} {ls : qw_L} {st : List Value} {σ : qw_M} (cut : List Nat) (N : Nat) (h : qw_run qw_tw wM qk_12 my_X12_sheet cd_X12_sheet cut Q (E_X12_sheet Q) N pc (qw_find cd_X12_sheet pc) ls st σ) : E_X12_sheet Q pc ls st σ := qw_runs qk_12_wM co_X12_sheet N pc _ ls st σ (fun _ h => qw_find_mem h) h
theorem mt_X12_sheet {Q : Option Value → qw_M → Prop} {av : List Value} {σ : qw_M} (hn : Nat.ble (lg_sl av).length 5 = true) (h : E_X12_sheet Q 0 (lv_args 0 av) [] σ) : qw_Mt qw_tw wM my_X12_sheet av σ Q := qw_Mt.of rfl (by decide +kernel) hn h
abbrev E_X12_shift (Q : Option Value → qw_M → Prop) := qw_Ev qw_tw wM qk_12 my_X12_shift Q
theorem ev_X12_shift {Q : Option Value → qw_M → Prop} {pc : Nat} {ls : qw_L} {st : List Value} {σ : qw_M} (cut : List Nat) (N : Nat) (h : qw_run qw_tw wM qk_12 my_X12_shift cd_X12_shift cut Q (E_X12_shift Q) N pc (qw_find cd_X12_shift pc) ls st σ) : E_X12_shift Q pc ls st σ := qw_runs qk_12_wM co_X12_shift N pc _ ls st σ (fun _ h => qw_find_mem h) h
theorem mt_X12_shift {Q : Option Value → qw_M → Prop} {av : List Value} {σ : qw_M} (hn : Nat.ble (lg_sl av).length 3 = true) (h : E_X12_shift Q 0 (lv_args 0 av) [] σ) : qw_Mt qw_tw wM my_X12_shift av σ Q := qw_Mt.of rfl (by decide +kernel) hn h
abbrev E_X12_shiftOf (Q : Option Value → qw_M → Prop) := qw_Ev qw_tw wM qk_12 my_X12_shiftOf Q
theorem ev_X12_shiftOf {Q : Option Value → qw_M → Prop} {pc : Nat} {ls : qw_L} {st : List Value} {σ : qw_M} (cut : List Nat) (N : Nat) (h : qw_run qw_tw wM qk_12 my_X12_shiftOf cd_X12_shiftOf cut Q (E_X12_shiftOf Q) N pc (qw_find cd_X12_shiftOf pc) ls st σ) : E_X12_shiftOf Q pc ls st σ := qw_runs qk_12_wM co_X12_shiftOf N pc _ ls st σ (fun _ h => qw_find_mem h) h
theorem mt_X12_shiftOf {Q : Option Value → qw_M → Prop} {av : List Value} {σ : qw_M} (hn : Nat.ble (lg_sl av).length 8 = true) (h : E_X12_shiftOf Q 0 (lv_args 0 av) [] σ) : qw_Mt qw_tw wM my_X12_shiftOf av σ Q := qw_Mt.of rfl (by decide +kernel) hn h
abbrev E_X12_shown (Q : Option Value → qw_M → Prop) := qw_Ev qw_tw wM qk_12 my_X12_shown Q
theorem ev_X12_shown {Q : Option Value → qw_M → Prop} {pc : Nat} {ls : qw_L} {st : List Value} {σ : qw_M} (cut : List Nat) (N : Nat) (h : qw_run qw_tw wM qk_12 my_X12_shown cd_X12_shown cut Q (E_X12_shown Q) N pc (qw_find cd_X12_shown pc) ls st σ) : E_X12_shown Q pc ls st σ := qw_runs qk_12_wM co_X12_shown N pc _ ls st σ (fun _ h => qw_find_mem h) h
theorem mt_X12_shown {Q : Option Value → qw_M → Prop} {av : List Value} {σ : qw_M} (hn : Nat.ble (lg_sl av).length 2 = true) (h : E_X12_shown Q 0 (lv_args 0 av) [] σ) : qw_Mt qw_tw wM my_X12_shown av σ Q := qw_Mt.of rfl (by decide +kernel) hn h
abbrev E_X12_shownBy (Q : Option Value → qw_M → Prop) := qw_Ev qw_tw wM qk_12 my_X12_shownBy Q
theorem ev_X12_shownBy {Q : Option Value → qw_M → Prop} {pc : Nat} {ls : qw_L} {st : List Value} {σ : qw_M} (cut : List Nat) (N : Nat) (h : qw_run qw_tw wM qk_12 my_X12_shownBy cd_X12_shownBy cut Q (E_X12_shownBy Q) N pc (qw_find cd_X12_shownBy pc) ls st σ) : E_X12_shownBy Q pc ls st σ := qw_runs qk_12_wM co_X12_shownBy N pc _ ls st σ (fun _ h => qw_find_mem h) h
theorem mt_X12_shownBy {Q : Option Value → qw_M → Prop} {av : List Value} {σ : qw_M} (hn : Nat.ble (lg_sl av).length 6 = true) (h : E_X12_shownBy Q 0 (lv_args 0 av) [] σ) : qw_Mt qw_tw wM my_X12_shownBy av σ Q := qw_Mt.of rfl (by decide +kernel) hn h
abbrev E_X12_stills (Q : Option Value → qw_M → Prop) := qw_Ev qw_tw wM qk_12 my_X12_stills Q
theorem ev_X12_stills {Q : Option Value → qw_M → Prop} {pc : Nat} {ls : qw_L} {st : List Value} {σ : qw_M} (cut : List Nat) (N : Nat) (h : qw_run qw_tw wM qk_12 my_X12_stills cd_X12_stills cut Q (E_X12_stills Q) N pc (qw_find cd_X12_stills pc) ls st σ) : E_X12_stills Q pc ls st σ := qw_runs qk_12_wM co_X12_stills N pc _ ls st σ (fun _ h => qw_find_mem h) h
theorem mt_X12_stills {Q : Option Value → qw_M → Prop} {av : List Value} {σ : qw_M} (hn : Nat.ble (lg_sl av).length 3 = true) (h : E_X12_stills Q 0 (lv_args 0 av) [] σ) : qw_Mt qw_tw wM my_X12_stills av σ Q := qw_Mt.of rfl (by decide +kernel) hn h
abbrev E_X12_stumble (Q : Option Value → qw_M → Prop) := qw_Ev qw_tw wM qk_12 my_X12_stumble Q
theorem ev_X12_stumble {Q : Option Value → qw_M → Prop} {pc : Nat} {ls : qw_L} {st : List Value} {σ : qw_M} (cut : List Nat) (N : Nat) (h : qw_run qw_tw wM qk_12 my_X12_stumble cd_X12_stumble cut Q (E_X12_stumble Q) N pc (qw_find cd_X12_stumble pc) ls st σ) : E_X12_stumble Q pc ls st σ := qw_runs qk_12_wM co_X12_stumble N pc _ ls st σ (fun _ h => qw_find_mem h) h
theorem mt_X12_stumble {Q : Option Value → qw_M → Prop} {av : List Value} {σ : qw_M} (hn : Nat.ble (lg_sl av).length 5 = true) (h : E_X12_stumble Q 0 (lv_args 0 av) [] σ) : qw_Mt qw_tw wM my_X12_stumble av σ Q := qw_Mt.of rfl (by decide +kernel) hn h
abbrev E_X12_stumbleOf (Q : Option Value → qw_M → Prop) := qw_Ev qw_tw wM qk_12 my_X12_stumbleOf Q
theorem ev_X12_stumbleOf {Q : Option Value → qw_M → Prop} {pc : Nat} {ls : qw_L} {st : List Value} {σ : qw_M} (cut : List Nat) (N : Nat) (h : qw_run qw_tw wM qk_12 my_X12_stumbleOf cd_X12_stumbleOf cut Q (E_X12_stumbleOf Q) N pc (qw_find cd_X12_stumbleOf pc) ls st σ) : E_X12_stumbleOf Q pc ls st σ := qw_runs qk_12_wM co_X12_stumbleOf N pc _ ls st σ (fun _ h => qw_find_mem h) h
theorem mt_X12_stumbleOf {Q : Option Value → qw_M → Prop} {av : List Value} {σ : qw_M} (hn : Nat.ble (lg_sl av).length 11 = true) (h : E_X12_stumbleOf Q 0 (lv_args 0 av) [] σ) : qw_Mt qw_tw wM my_X12_stumbleOf av σ Q := qw_Mt.of rfl (by decide +kernel) hn h
abbrev E_X12_tellsAt (Q : Option Value → qw_M → Prop) := qw_Ev qw_tw wM qk_12 my_X12_tellsAt Q
theorem ev_X12_tellsAt {Q : Option Value → qw_M → Prop} {pc : Nat} {ls : qw_L} {st : List Value} {σ : qw_M} (cut : List Nat) (N : Nat) (h : qw_run qw_tw wM qk_12 my_X12_tellsAt cd_X12_tellsAt cut Q (E_X12_tellsAt Q) N pc (qw_find cd_X12_tellsAt pc) ls st σ) : E_X12_tellsAt Q pc ls st σ := qw_runs qk_12_wM co_X12_tellsAt N pc _ ls st σ (fun _ h => qw_find_mem h) h
theorem mt_X12_tellsAt {Q : Option Value → qw_M → Prop} {av : List Value} {σ : qw_M} (hn : Nat.ble (lg_sl av).length 8 = true) (h : E_X12_tellsAt Q 0 (lv_args 0 av) [] σ) : qw_Mt qw_tw wM my_X12_tellsAt av σ Q := qw_Mt.of rfl (by decide +kernel) hn h
abbrev E_X12_tellsFigure (Q : Option Value → qw_M → Prop) := qw_Ev qw_tw wM qk_12 my_X12_tellsFigure Q
theorem ev_X12_tellsFigure {Q : Option Value → qw_M → Prop} {pc : Nat} {ls : qw_L} {st : List Value} {σ : qw_M} (cut : List Nat) (N : Nat) (h : qw_run qw_tw wM qk_12 my_X12_tellsFigure cd_X12_tellsFigure cut Q (E_X12_tellsFigure Q) N pc (qw_find cd_X12_tellsFigure pc) ls st σ) : E_X12_tellsFigure Q pc ls st σ := qw_runs qk_12_wM co_X12_tellsFigure N pc _ ls st σ (fun _ h => qw_find_mem h) h
theorem mt_X12_tellsFigure {Q : Option Value → qw_M → Prop} {av : List Value} {σ : qw_M} (hn : Nat.ble (lg_sl av).length 7 = true) (h : E_X12_tellsFigure Q 0 (lv_args 0 av) [] σ) : qw_Mt qw_tw wM my_X12_tellsFigure av σ Q := qw_Mt.of rfl (by decide +kernel) hn h
abbrev E_X12_tellsStep (Q : Option Value → qw_M → Prop) := qw_Ev qw_tw wM qk_12 my_X12_tellsStep Q
theorem ev_X12_tellsStep {Q : Option Value → qw_M → Prop} {pc : Nat} {ls : qw_L} {st : List Value} {σ : qw_M} (cut : List Nat) (N : Nat) (h : qw_run qw_tw wM qk_12 my_X12_tellsStep cd_X12_tellsStep cut Q (E_X12_tellsStep Q) N pc (qw_find cd_X12_tellsStep pc) ls st σ) : E_X12_tellsStep Q pc ls st σ := qw_runs qk_12_wM co_X12_tellsStep N pc _ ls st σ (fun _ h => qw_find_mem h) h
theorem mt_X12_tellsStep {Q : Option Value → qw_M → Prop} {av : List Value} {σ : qw_M} (hn : Nat.ble (lg_sl av).length 6 = true) (h : E_X12_tellsStep Q 0 (lv_args 0 av) [] σ) : qw_Mt qw_tw wM my_X12_tellsStep av σ Q := qw_Mt.of rfl (by decide +kernel) hn h
abbrev E_X12_touched (Q : Option Value → qw_M → Prop) := qw_Ev qw_tw wM qk_12 my_X12_touched Q
theorem ev_X12_touched {Q : Option Value → qw_M → Prop} {pc : Nat} {ls : qw_L} {st : List Value} {σ : qw_M} (cut : List Nat) (N : Nat) (h : qw_run qw_tw wM qk_12 my_X12_touched cd_X12_touched cut Q (E_X12_touched Q) N pc (qw_find cd_X12_touched pc) ls st σ) : E_X12_touched Q pc ls st σ := qw_runs qk_12_wM co_X12_touched N pc _ ls st σ (fun _ h => qw_find_mem h) h
theorem mt_X12_touched {Q : Option Value → qw_M → Prop} {av : List Value} {σ : qw_M} (hn : Nat.ble (lg_sl av).length 2 = true) (h : E_X12_touched Q 0 (lv_args 0 av) [] σ) : qw_Mt qw_tw wM my_X12_touched av σ Q := qw_Mt.of rfl (by decide +kernel) hn h
abbrev E_X12_touchedBy (Q : Option Value → qw_M → Prop) := qw_Ev qw_tw wM qk_12 my_X12_touchedBy Q
theorem ev_X12_touchedBy {Q : Option Value → qw_M → Prop} {pc : Nat} {ls : qw_L} {st : List Value} {σ : qw_M} (cut : List Nat) (N : Nat) (h : qw_run qw_tw wM qk_12 my_X12_touchedBy cd_X12_touchedBy cut Q (E_X12_touchedBy Q) N pc (qw_find cd_X12_touchedBy pc) ls st σ) : E_X12_touchedBy Q pc ls st σ := qw_runs qk_12_wM co_X12_touchedBy N pc _ ls st σ (fun _ h => qw_find_mem h) h
theorem mt_X12_touchedBy {Q : Option Value → qw_M → Prop} {av : List Value} {σ : qw_M} (hn : Nat.ble (lg_sl av).length 5 = true) (h : E_X12_touchedBy Q 0 (lv_args 0 av) [] σ) : qw_Mt qw_tw wM my_X12_touchedBy av σ Q := qw_Mt.of rfl (by decide +kernel) hn h
abbrev E_X12_type (Q : Option Value → qw_M → Prop) := qw_Ev qw_tw wM qk_12 my_X12_type Q
theorem ev_X12_type {Q : Option Value → qw_M → Prop} {pc : Nat} {ls : qw_L} {st : List Value} {σ : qw_M} (cut : List Nat) (N : Nat) (h : qw_run qw_tw wM qk_12 my_X12_type cd_X12_type cut Q (E_X12_type Q) N pc (qw_find cd_X12_type pc) ls st σ) : E_X12_type Q pc ls st σ := qw_runs qk_12_wM co_X12_type N pc _ ls st σ (fun _ h => qw_find_mem h) h
theorem mt_X12_type {Q : Option Value → qw_M → Prop} {av : List Value} {σ : qw_M} (hn : Nat.ble (lg_sl av).length 3 = true) (h : E_X12_type Q 0 (lv_args 0 av) [] σ) : qw_Mt qw_tw wM my_X12_type av σ Q := qw_Mt.of rfl (by decide +kernel) hn h
abbrev E_X12_undo (Q : Option Value → qw_M → Prop) := qw_Ev qw_tw wM qk_12 my_X12_undo Q
theorem ev_X12_undo {Q : Option Value → qw_M → Prop} {pc : Nat} {ls : qw_L} {st : List Value} {σ : qw_M} (cut : List Nat) (N : Nat) (h : qw_run qw_tw wM qk_12 my_X12_undo cd_X12_undo cut Q (E_X12_undo Q) N pc (qw_find cd_X12_undo pc) ls st σ) : E_X12_undo Q pc ls st σ := qw_runs qk_12_wM co_X12_undo N pc _ ls st σ (fun _ h => qw_find_mem h) h
theorem mt_X12_undo {Q : Option Value → qw_M → Prop} {av : List Value} {σ : qw_M} (hn : Nat.ble (lg_sl av).length 2 = true) (h : E_X12_undo Q 0 (lv_args 0 av) [] σ) : qw_Mt qw_tw wM my_X12_undo av σ Q := qw_Mt.of rfl (by decide +kernel) hn h
abbrev E_X12_was (Q : Option Value → qw_M → Prop) := qw_Ev qw_tw wM qk_12 my_X12_was Q
theorem ev_X12_was {Q : Option Value → qw_M → Prop} {pc : Nat} {ls : qw_L} {st : List Value} {σ : qw_M} (cut : List Nat) (N : Nat) (h : qw_run qw_tw wM qk_12 my_X12_was cd_X12_was cut Q (E_X12_was Q) N pc (qw_find cd_X12_was pc) ls st σ) : E_X12_was Q pc ls st σ := qw_runs qk_12_wM co_X12_was N pc _ ls st σ (fun _ h => qw_find_mem h) h
theorem mt_X12_was {Q : Option Value → qw_M → Prop} {av : List Value} {σ : qw_M} (hn : Nat.ble (lg_sl av).length 3 = true) (h : E_X12_was Q 0 (lv_args 0 av) [] σ) : qw_Mt qw_tw wM my_X12_was av σ Q := qw_Mt.of rfl (by decide +kernel) hn h
abbrev E_X12_wasOf (Q : Option Value → qw_M → Prop) := qw_Ev qw_tw wM qk_12 my_X12_wasOf Q
theorem ev_X12_wasOf {Q : Option Value → qw_M → Prop} {pc : Nat} {ls : qw_L} {st : List Value} {σ : qw_M} (cut : List Nat) (N : Nat) (h : qw_run qw_tw wM qk_12 my_X12_wasOf cd_X12_wasOf cut Q (E_X12_wasOf Q) N pc (qw_find cd_X12_wasOf pc) ls st σ) : E_X12_wasOf Q pc ls st σ := qw_runs qk_12_wM co_X12_wasOf N pc _ ls st σ (fun _ h => qw_find_mem h) h
theorem mt_X12_wasOf {Q : Option Value → qw_M → Prop} {av : List Value} {σ : qw_M} (hn : Nat.ble (lg_sl av).length 3 = true) (h : E_X12_wasOf Q 0 (lv_args 0 av) [] σ) : qw_Mt qw_tw wM my_X12_wasOf av σ Q := qw_Mt.of rfl (by decide +kernel) hn h
abbrev E_X12_wayOf (Q : Option Value → qw_M → Prop) := qw_Ev qw_tw wM qk_12 my_X12_wayOf Q
theorem ev_X12_wayOf {Q : Option Value → qw_M → Prop} {pc : Nat} {ls : qw_L} {st : List Value} {σ : qw_M} (cut : List Nat) (N : Nat) (h : qw_run qw_tw wM qk_12 my_X12_wayOf cd_X12_wayOf cut Q (E_X12_wayOf Q) N pc (qw_find cd_X12_wayOf pc) ls st σ) : E_X12_wayOf Q pc ls st σ := qw_runs qk_12_wM co_X12_wayOf N pc _ ls st σ (fun _ h => qw_find_mem h) h
theorem mt_X12_wayOf {Q : Option Value → qw_M → Prop} {av : List Value} {σ : qw_M} (hn : Nat.ble (lg_sl av).length 1 = true) (h : E_X12_wayOf Q 0 (lv_args 0 av) [] σ) : qw_Mt qw_tw wM my_X12_wayOf av σ Q := qw_Mt.of rfl (by decide +kernel) hn h
abbrev E_X12_wipe (Q : Option Value → qw_M → Prop) := qw_Ev qw_tw wM qk_12 my_X12_wipe Q
theorem ev_X12_wipe {Q : Option Value → qw_M → Prop} {pc : Nat} {ls : qw_L} {st : List Value} {σ : qw_M} (cut : List Nat) (N : Nat) (h : qw_run qw_tw wM qk_12 my_X12_wipe cd_X12_wipe cut Q (E_X12_wipe Q) N pc (qw_find cd_X12_wipe pc) ls st σ) : E_X12_wipe Q pc ls st σ := qw_runs qk_12_wM co_X12_wipe N pc _ ls st σ (fun _ h => qw_find_mem h) h
theorem mt_X12_wipe {Q : Option Value → qw_M → Prop} {av : List Value} {σ : qw_M} (hn : Nat.ble (lg_sl av).length 3 = true) (h : E_X12_wipe Q 0 (lv_args 0 av) [] σ) : qw_Mt qw_tw wM my_X12_wipe av σ Q := qw_Mt.of rfl (by decide +kernel) hn h
abbrev E_X12_write (Q : Option Value → qw_M → Prop) := qw_Ev qw_tw wM qk_12 my_X12_write Q
theorem ev_X12_write {Q : Option Value → qw_M → Prop} {pc : Nat} {ls : qw_L} {st : List Value} {σ : qw_M} (cut : List Nat) (N : Nat) (h : qw_run qw_tw wM qk_12 my_X12_write cd_X12_write cut Q (E_X12_write Q) N pc (qw_find cd_X12_write pc) ls st σ) : E_X12_write Q pc ls st σ := qw_runs qk_12_wM co_X12_write N pc _ ls st σ (fun _ h => qw_find_mem h) h
theorem mt_X12_write {Q : Option Value → qw_M → Prop} {av : List Value} {σ : qw_M} (hn : Nat.ble (lg_sl av).length 5 = true) (h : E_X12_write Q 0 (lv_args 0 av) [] σ) : qw_Mt qw_tw wM my_X12_write av σ Q := qw_Mt.of rfl (by decide +kernel) hn h
abbrev E_X1_add (Q : Option Value → qw_M → Prop) := qw_Ev qw_tw wC qk_1 my_X1_add Q
theorem ev_X1_add {Q : Option Value → qw_M → Prop} {pc : Nat} {ls : qw_L} {st : List Value} {σ : qw_M} (cut : List Nat) (N : Nat) (h : qw_run qw_tw wC qk_1 my_X1_add cd_X1_add cut Q (E_X1_add Q) N pc (qw_find cd_X1_add pc) ls st σ) : E_X1_add Q pc ls st σ := qw_runs qk_1_wC co_X1_add N pc _ ls st σ (fun _ h => qw_find_mem h) h
theorem mt_X1_add {Q : Option Value → qw_M → Prop} {av : List Value} {σ : qw_M} (hn : Nat.ble (lg_sl av).length 3 = true) (h : E_X1_add Q 0 (lv_args 0 av) [] σ) : qw_Mt qw_tw wC my_X1_add av σ Q := qw_Mt.of rfl (by decide +kernel) hn h
abbrev E_X1_clear (Q : Option Value → qw_M → Prop) := qw_Ev qw_tw wC qk_1 my_X1_clear Q
theorem ev_X1_clear {Q : Option Value → qw_M → Prop} {pc : Nat} {ls : qw_L} {st : List Value} {σ : qw_M} (cut : List Nat) (N : Nat) (h : qw_run qw_tw wC qk_1 my_X1_clear cd_X1_clear cut Q (E_X1_clear Q) N pc (qw_find cd_X1_clear pc) ls st σ) : E_X1_clear Q pc ls st σ := qw_runs qk_1_wC co_X1_clear N pc _ ls st σ (fun _ h => qw_find_mem h) h
theorem mt_X1_clear {Q : Option Value → qw_M → Prop} {av : List Value} {σ : qw_M} (hn : Nat.ble (lg_sl av).length 1 = true) (h : E_X1_clear Q 0 (lv_args 0 av) [] σ) : qw_Mt qw_tw wC my_X1_clear av σ Q := qw_Mt.of rfl (by decide +kernel) hn h
abbrev E_X1_figureOf (Q : Option Value → qw_M → Prop) := qw_Ev qw_tw wC qk_1 my_X1_figureOf Q
theorem ev_X1_figureOf {Q : Option Value → qw_M → Prop} {pc : Nat} {ls : qw_L} {st : List Value} {σ : qw_M} (cut : List Nat) (N : Nat) (h : qw_run qw_tw wC qk_1 my_X1_figureOf cd_X1_figureOf cut Q (E_X1_figureOf Q) N pc (qw_find cd_X1_figureOf pc) ls st σ) : E_X1_figureOf Q pc ls st σ := qw_runs qk_1_wC co_X1_figureOf N pc _ ls st σ (fun _ h => qw_find_mem h) h
theorem mt_X1_figureOf {Q : Option Value → qw_M → Prop} {av : List Value} {σ : qw_M} (hn : Nat.ble (lg_sl av).length 2 = true) (h : E_X1_figureOf Q 0 (lv_args 0 av) [] σ) : qw_Mt qw_tw wC my_X1_figureOf av σ Q := qw_Mt.of rfl (by decide +kernel) hn h
abbrev E_X1_parse (Q : Option Value → qw_M → Prop) := qw_Ev qw_tw wC qk_1 my_X1_parse Q
theorem ev_X1_parse {Q : Option Value → qw_M → Prop} {pc : Nat} {ls : qw_L} {st : List Value} {σ : qw_M} (cut : List Nat) (N : Nat) (h : qw_run qw_tw wC qk_1 my_X1_parse cd_X1_parse cut Q (E_X1_parse Q) N pc (qw_find cd_X1_parse pc) ls st σ) : E_X1_parse Q pc ls st σ := qw_runs qk_1_wC co_X1_parse N pc _ ls st σ (fun _ h => qw_find_mem h) h
theorem mt_X1_parse {Q : Option Value → qw_M → Prop} {av : List Value} {σ : qw_M} (hn : Nat.ble (lg_sl av).length 3 = true) (h : E_X1_parse Q 0 (lv_args 0 av) [] σ) : qw_Mt qw_tw wC my_X1_parse av σ Q := qw_Mt.of rfl (by decide +kernel) hn h
abbrev E_X1_steps (Q : Option Value → qw_M → Prop) := qw_Ev qw_tw wC qk_1 my_X1_steps Q
theorem ev_X1_steps {Q : Option Value → qw_M → Prop} {pc : Nat} {ls : qw_L} {st : List Value} {σ : qw_M} (cut : List Nat) (N : Nat) (h : qw_run qw_tw wC qk_1 my_X1_steps cd_X1_steps cut Q (E_X1_steps Q) N pc (qw_find cd_X1_steps pc) ls st σ) : E_X1_steps Q pc ls st σ := qw_runs qk_1_wC co_X1_steps N pc _ ls st σ (fun _ h => qw_find_mem h) h
theorem mt_X1_steps {Q : Option Value → qw_M → Prop} {av : List Value} {σ : qw_M} (hn : Nat.ble (lg_sl av).length 3 = true) (h : E_X1_steps Q 0 (lv_args 0 av) [] σ) : qw_Mt qw_tw wC my_X1_steps av σ Q := qw_Mt.of rfl (by decide +kernel) hn h
abbrev E_X1_takes (Q : Option Value → qw_M → Prop) := qw_Ev qw_tw wC qk_1 my_X1_takes Q
theorem ev_X1_takes {Q : Option Value → qw_M → Prop} {pc : Nat} {ls : qw_L} {st : List Value} {σ : qw_M} (cut : List Nat) (N : Nat) (h : qw_run qw_tw wC qk_1 my_X1_takes cd_X1_takes cut Q (E_X1_takes Q) N pc (qw_find cd_X1_takes pc) ls st σ) : E_X1_takes Q pc ls st σ := qw_runs qk_1_wC co_X1_takes N pc _ ls st σ (fun _ h => qw_find_mem h) h
theorem mt_X1_takes {Q : Option Value → qw_M → Prop} {av : List Value} {σ : qw_M} (hn : Nat.ble (lg_sl av).length 4 = true) (h : E_X1_takes Q 0 (lv_args 0 av) [] σ) : qw_Mt qw_tw wC my_X1_takes av σ Q := qw_Mt.of rfl (by decide +kernel) hn h
abbrev E_X1_whitherOf (Q : Option Value → qw_M → Prop) := qw_Ev qw_tw wC qk_1 my_X1_whitherOf Q
theorem ev_X1_whitherOf {Q : Option Value → qw_M → Prop} {pc : Nat} {ls : qw_L} {st : List Value} {σ : qw_M} (cut : List Nat) (N : Nat) (h : qw_run qw_tw wC qk_1 my_X1_whitherOf cd_X1_whitherOf cut Q (E_X1_whitherOf Q) N pc (qw_find cd_X1_whitherOf pc) ls st σ) : E_X1_whitherOf Q pc ls st σ := qw_runs qk_1_wC co_X1_whitherOf N pc _ ls st σ (fun _ h => qw_find_mem h) h
theorem mt_X1_whitherOf {Q : Option Value → qw_M → Prop} {av : List Value} {σ : qw_M} (hn : Nat.ble (lg_sl av).length 2 = true) (h : E_X1_whitherOf Q 0 (lv_args 0 av) [] σ) : qw_Mt qw_tw wC my_X1_whitherOf av σ Q := qw_Mt.of rfl (by decide +kernel) hn h
abbrev E_X2_become (Q : Option Value → qw_M → Prop) := qw_Ev qw_tw wC qk_2 my_X2_become Q
theorem ev_X2_become {Q : Option Value → qw_M → Prop} {pc : Nat} {ls : qw_L} {st : List Value} {σ : qw_M} (cut : List Nat) (N : Nat) (h : qw_run qw_tw wC qk_2 my_X2_become cd_X2_become cut Q (E_X2_become Q) N pc (qw_find cd_X2_become pc) ls st σ) : E_X2_become Q pc ls st σ := qw_runs qk_2_wC co_X2_become N pc _ ls st σ (fun _ h => qw_find_mem h) h
theorem mt_X2_become {Q : Option Value → qw_M → Prop} {av : List Value} {σ : qw_M} (hn : Nat.ble (lg_sl av).length 2 = true) (h : E_X2_become Q 0 (lv_args 0 av) [] σ) : qw_Mt qw_tw wC my_X2_become av σ Q := qw_Mt.of rfl (by decide +kernel) hn h
abbrev E_X2_dark (Q : Option Value → qw_M → Prop) := qw_Ev qw_tw wC qk_2 my_X2_dark Q
theorem ev_X2_dark {Q : Option Value → qw_M → Prop} {pc : Nat} {ls : qw_L} {st : List Value} {σ : qw_M} (cut : List Nat) (N : Nat) (h : qw_run qw_tw wC qk_2 my_X2_dark cd_X2_dark cut Q (E_X2_dark Q) N pc (qw_find cd_X2_dark pc) ls st σ) : E_X2_dark Q pc ls st σ := qw_runs qk_2_wC co_X2_dark N pc _ ls st σ (fun _ h => qw_find_mem h) h
theorem mt_X2_dark {Q : Option Value → qw_M → Prop} {av : List Value} {σ : qw_M} (hn : Nat.ble (lg_sl av).length 1 = true) (h : E_X2_dark Q 0 (lv_args 0 av) [] σ) : qw_Mt qw_tw wC my_X2_dark av σ Q := qw_Mt.of rfl (by decide +kernel) hn h
abbrev E_X2_dim (Q : Option Value → qw_M → Prop) := qw_Ev qw_tw wC qk_2 my_X2_dim Q
theorem ev_X2_dim {Q : Option Value → qw_M → Prop} {pc : Nat} {ls : qw_L} {st : List Value} {σ : qw_M} (cut : List Nat) (N : Nat) (h : qw_run qw_tw wC qk_2 my_X2_dim cd_X2_dim cut Q (E_X2_dim Q) N pc (qw_find cd_X2_dim pc) ls st σ) : E_X2_dim Q pc ls st σ := qw_runs qk_2_wC co_X2_dim N pc _ ls st σ (fun _ h => qw_find_mem h) h
theorem mt_X2_dim {Q : Option Value → qw_M → Prop} {av : List Value} {σ : qw_M} (hn : Nat.ble (lg_sl av).length 3 = true) (h : E_X2_dim Q 0 (lv_args 0 av) [] σ) : qw_Mt qw_tw wC my_X2_dim av σ Q := qw_Mt.of rfl (by decide +kernel) hn h
abbrev E_X2_fill (Q : Option Value → qw_M → Prop) := qw_Ev qw_tw wC qk_2 my_X2_fill Q
theorem ev_X2_fill {Q : Option Value → qw_M → Prop} {pc : Nat} {ls : qw_L} {st : List Value} {σ : qw_M} (cut : List Nat) (N : Nat) (h : qw_run qw_tw wC qk_2 my_X2_fill cd_X2_fill cut Q (E_X2_fill Q) N pc (qw_find cd_X2_fill pc) ls st σ) : E_X2_fill Q pc ls st σ := qw_runs qk_2_wC co_X2_fill N pc _ ls st σ (fun _ h => qw_find_mem h) h
theorem mt_X2_fill {Q : Option Value → qw_M → Prop} {av : List Value} {σ : qw_M} (hn : Nat.ble (lg_sl av).length 2 = true) (h : E_X2_fill Q 0 (lv_args 0 av) [] σ) : qw_Mt qw_tw wC my_X2_fill av σ Q := qw_Mt.of rfl (by decide +kernel) hn h
abbrev E_X2_lightOf (Q : Option Value → qw_M → Prop) := qw_Ev qw_tw wC qk_2 my_X2_lightOf Q
theorem ev_X2_lightOf {Q : Option Value → qw_M → Prop} {pc : Nat} {ls : qw_L} {st : List Value} {σ : qw_M} (cut : List Nat) (N : Nat) (h : qw_run qw_tw wC qk_2 my_X2_lightOf cd_X2_lightOf cut Q (E_X2_lightOf Q) N pc (qw_find cd_X2_lightOf pc) ls st σ) : E_X2_lightOf Q pc ls st σ := qw_runs qk_2_wC co_X2_lightOf N pc _ ls st σ (fun _ h => qw_find_mem h) h
theorem mt_X2_lightOf {Q : Option Value → qw_M → Prop} {av : List Value} {σ : qw_M} (hn : Nat.ble (lg_sl av).length 2 = true) (h : E_X2_lightOf Q 0 (lv_args 0 av) [] σ) : qw_Mt qw_tw wC my_X2_lightOf av σ Q := qw_Mt.of rfl (by decide +kernel) hn h
abbrev E_X2_set (Q : Option Value → qw_M → Prop) := qw_Ev qw_tw wC qk_2 my_X2_set Q
theorem ev_X2_set {Q : Option Value → qw_M → Prop} {pc : Nat} {ls : qw_L} {st : List Value} {σ : qw_M} (cut : List Nat) (N : Nat) (h : qw_run qw_tw wC qk_2 my_X2_set cd_X2_set cut Q (E_X2_set Q) N pc (qw_find cd_X2_set pc) ls st σ) : E_X2_set Q pc ls st σ := qw_runs qk_2_wC co_X2_set N pc _ ls st σ (fun _ h => qw_find_mem h) h
theorem mt_X2_set {Q : Option Value → qw_M → Prop} {av : List Value} {σ : qw_M} (hn : Nat.ble (lg_sl av).length 3 = true) (h : E_X2_set Q 0 (lv_args 0 av) [] σ) : qw_Mt qw_tw wC my_X2_set av σ Q := qw_Mt.of rfl (by decide +kernel) hn h
abbrev E_X3_falseBy (Q : Option Value → qw_M → Prop) := qw_Ev qw_tw wC qk_3 my_X3_falseBy Q
theorem ev_X3_falseBy {Q : Option Value → qw_M → Prop} {pc : Nat} {ls : qw_L} {st : List Value} {σ : qw_M} (cut : List Nat) (N : Nat) (h : qw_run qw_tw wC qk_3 my_X3_falseBy cd_X3_falseBy cut Q (E_X3_falseBy Q) N pc (qw_find cd_X3_falseBy pc) ls st σ) : E_X3_falseBy Q pc ls st σ := qw_runs qk_3_wC co_X3_falseBy N pc _ ls st σ (fun _ h => qw_find_mem h) h
theorem mt_X3_falseBy {Q : Option Value → qw_M → Prop} {av : List Value} {σ : qw_M} (hn : Nat.ble (lg_sl av).length 3 = true) (h : E_X3_falseBy Q 0 (lv_args 0 av) [] σ) : qw_Mt qw_tw wC my_X3_falseBy av σ Q := qw_Mt.of rfl (by decide +kernel) hn h
abbrev E_X3_isShownBy (Q : Option Value → qw_M → Prop) := qw_Ev qw_tw wC qk_3 my_X3_isShownBy Q
theorem ev_X3_isShownBy {Q : Option Value → qw_M → Prop} {pc : Nat} {ls : qw_L} {st : List Value} {σ : qw_M} (cut : List Nat) (N : Nat) (h : qw_run qw_tw wC qk_3 my_X3_isShownBy cd_X3_isShownBy cut Q (E_X3_isShownBy Q) N pc (qw_find cd_X3_isShownBy pc) ls st σ) : E_X3_isShownBy Q pc ls st σ := qw_runs qk_3_wC co_X3_isShownBy N pc _ ls st σ (fun _ h => qw_find_mem h) h
theorem mt_X3_isShownBy {Q : Option Value → qw_M → Prop} {av : List Value} {σ : qw_M} (hn : Nat.ble (lg_sl av).length 2 = true) (h : E_X3_isShownBy Q 0 (lv_args 0 av) [] σ) : qw_Mt qw_tw wC my_X3_isShownBy av σ Q := qw_Mt.of rfl (by decide +kernel) hn h
abbrev E_X3_lightOf (Q : Option Value → qw_M → Prop) := qw_Ev qw_tw wC qk_3 my_X3_lightOf Q
theorem ev_X3_lightOf {Q : Option Value → qw_M → Prop} {pc : Nat} {ls : qw_L} {st : List Value} {σ : qw_M} (cut : List Nat) (N : Nat) (h : qw_run qw_tw wC qk_3 my_X3_lightOf cd_X3_lightOf cut Q (E_X3_lightOf Q) N pc (qw_find cd_X3_lightOf pc) ls st σ) : E_X3_lightOf Q pc ls st σ := qw_runs qk_3_wC co_X3_lightOf N pc _ ls st σ (fun _ h => qw_find_mem h) h
theorem mt_X3_lightOf {Q : Option Value → qw_M → Prop} {av : List Value} {σ : qw_M} (hn : Nat.ble (lg_sl av).length 2 = true) (h : E_X3_lightOf Q 0 (lv_args 0 av) [] σ) : qw_Mt qw_tw wC my_X3_lightOf av σ Q := qw_Mt.of rfl (by decide +kernel) hn h
abbrev E_X3_parse (Q : Option Value → qw_M → Prop) := qw_Ev qw_tw wC qk_3 my_X3_parse Q
theorem ev_X3_parse {Q : Option Value → qw_M → Prop} {pc : Nat} {ls : qw_L} {st : List Value} {σ : qw_M} (cut : List Nat) (N : Nat) (h : qw_run qw_tw wC qk_3 my_X3_parse cd_X3_parse cut Q (E_X3_parse Q) N pc (qw_find cd_X3_parse pc) ls st σ) : E_X3_parse Q pc ls st σ := qw_runs qk_3_wC co_X3_parse N pc _ ls st σ (fun _ h => qw_find_mem h) h
theorem mt_X3_parse {Q : Option Value → qw_M → Prop} {av : List Value} {σ : qw_M} (hn : Nat.ble (lg_sl av).length 4 = true) (h : E_X3_parse Q 0 (lv_args 0 av) [] σ) : qw_Mt qw_tw wC my_X3_parse av σ Q := qw_Mt.of rfl (by decide +kernel) hn h
abbrev E_X4_answer (Q : Option Value → qw_M → Prop) := qw_Ev qw_tw wC qk_4 my_X4_answer Q
theorem ev_X4_answer {Q : Option Value → qw_M → Prop} {pc : Nat} {ls : qw_L} {st : List Value} {σ : qw_M} (cut : List Nat) (N : Nat) (h : qw_run qw_tw wC qk_4 my_X4_answer cd_X4_answer cut Q (E_X4_answer Q) N pc (qw_find cd_X4_answer pc) ls st σ) : E_X4_answer Q pc ls st σ := qw_runs qk_4_wC co_X4_answer N pc _ ls st σ (fun _ h => qw_find_mem h) h
theorem mt_X4_answer {Q : Option Value → qw_M → Prop} {av : List Value} {σ : qw_M} (hn : Nat.ble (lg_sl av).length 2 = true) (h : E_X4_answer Q 0 (lv_args 0 av) [] σ) : qw_Mt qw_tw wC my_X4_answer av σ Q := qw_Mt.of rfl (by decide +kernel) hn h
abbrev E_X4_decide (Q : Option Value → qw_M → Prop) := qw_Ev qw_tw wC qk_4 my_X4_decide Q
theorem ev_X4_decide {Q : Option Value → qw_M → Prop} {pc : Nat} {ls : qw_L} {st : List Value} {σ : qw_M} (cut : List Nat) (N : Nat) (h : qw_run qw_tw wC qk_4 my_X4_decide cd_X4_decide cut Q (E_X4_decide Q) N pc (qw_find cd_X4_decide pc) ls st σ) : E_X4_decide Q pc ls st σ := qw_runs qk_4_wC co_X4_decide N pc _ ls st σ (fun _ h => qw_find_mem h) h
theorem mt_X4_decide {Q : Option Value → qw_M → Prop} {av : List Value} {σ : qw_M} (hn : Nat.ble (lg_sl av).length 4 = true) (h : E_X4_decide Q 0 (lv_args 0 av) [] σ) : qw_Mt qw_tw wC my_X4_decide av σ Q := qw_Mt.of rfl (by decide +kernel) hn h
abbrev E_X4_findEnds (Q : Option Value → qw_M → Prop) := qw_Ev qw_tw wC qk_4 my_X4_findEnds Q
theorem ev_X4_findEnds {Q : Option Value → qw_M → Prop} {pc : Nat} {ls : qw_L} {st : List Value} {σ : qw_M} (cut : List Nat) (N : Nat) (h : qw_run qw_tw wC qk_4 my_X4_findEnds cd_X4_findEnds cut Q (E_X4_findEnds Q) N pc (qw_find cd_X4_findEnds pc) ls st σ) : E_X4_findEnds Q pc ls st σ := qw_runs qk_4_wC co_X4_findEnds N pc _ ls st σ (fun _ h => qw_find_mem h) h
theorem mt_X4_findEnds {Q : Option Value → qw_M → Prop} {av : List Value} {σ : qw_M} (hn : Nat.ble (lg_sl av).length 5 = true) (h : E_X4_findEnds Q 0 (lv_args 0 av) [] σ) : qw_Mt qw_tw wC my_X4_findEnds av σ Q := qw_Mt.of rfl (by decide +kernel) hn h
abbrev E_X4_isShownAfter (Q : Option Value → qw_M → Prop) := qw_Ev qw_tw wC qk_4 my_X4_isShownAfter Q
theorem ev_X4_isShownAfter {Q : Option Value → qw_M → Prop} {pc : Nat} {ls : qw_L} {st : List Value} {σ : qw_M} (cut : List Nat) (N : Nat) (h : qw_run qw_tw wC qk_4 my_X4_isShownAfter cd_X4_isShownAfter cut Q (E_X4_isShownAfter Q) N pc (qw_find cd_X4_isShownAfter pc) ls st σ) : E_X4_isShownAfter Q pc ls st σ := qw_runs qk_4_wC co_X4_isShownAfter N pc _ ls st σ (fun _ h => qw_find_mem h) h
theorem mt_X4_isShownAfter {Q : Option Value → qw_M → Prop} {av : List Value} {σ : qw_M} (hn : Nat.ble (lg_sl av).length 9 = true) (h : E_X4_isShownAfter Q 0 (lv_args 0 av) [] σ) : qw_Mt qw_tw wC my_X4_isShownAfter av σ Q := qw_Mt.of rfl (by decide +kernel) hn h
abbrev E_X4_isShownWithout (Q : Option Value → qw_M → Prop) := qw_Ev qw_tw wC qk_4 my_X4_isShownWithout Q
theorem ev_X4_isShownWithout {Q : Option Value → qw_M → Prop} {pc : Nat} {ls : qw_L} {st : List Value} {σ : qw_M} (cut : List Nat) (N : Nat) (h : qw_run qw_tw wC qk_4 my_X4_isShownWithout cd_X4_isShownWithout cut Q (E_X4_isShownWithout Q) N pc (qw_find cd_X4_isShownWithout pc) ls st σ) : E_X4_isShownWithout Q pc ls st σ := qw_runs qk_4_wC co_X4_isShownWithout N pc _ ls st σ (fun _ h => qw_find_mem h) h
theorem mt_X4_isShownWithout {Q : Option Value → qw_M → Prop} {av : List Value} {σ : qw_M} (hn : Nat.ble (lg_sl av).length 3 = true) (h : E_X4_isShownWithout Q 0 (lv_args 0 av) [] σ) : qw_Mt qw_tw wC my_X4_isShownWithout av σ Q := qw_Mt.of rfl (by decide +kernel) hn h
abbrev E_X4_planHang (Q : Option Value → qw_M → Prop) := qw_Ev qw_tw wC qk_4 my_X4_planHang Q
theorem ev_X4_planHang {Q : Option Value → qw_M → Prop} {pc : Nat} {ls : qw_L} {st : List Value} {σ : qw_M} (cut : List Nat) (N : Nat) (h : qw_run qw_tw wC qk_4 my_X4_planHang cd_X4_planHang cut Q (E_X4_planHang Q) N pc (qw_find cd_X4_planHang pc) ls st σ) : E_X4_planHang Q pc ls st σ := qw_runs qk_4_wC co_X4_planHang N pc _ ls st σ (fun _ h => qw_find_mem h) h
theorem mt_X4_planHang {Q : Option Value → qw_M → Prop} {av : List Value} {σ : qw_M} (hn : Nat.ble (lg_sl av).length 5 = true) (h : E_X4_planHang Q 0 (lv_args 0 av) [] σ) : qw_Mt qw_tw wC my_X4_planHang av σ Q := qw_Mt.of rfl (by decide +kernel) hn h
abbrev E_X4_planLeave (Q : Option Value → qw_M → Prop) := qw_Ev qw_tw wC qk_4 my_X4_planLeave Q
theorem ev_X4_planLeave {Q : Option Value → qw_M → Prop} {pc : Nat} {ls : qw_L} {st : List Value} {σ : qw_M} (cut : List Nat) (N : Nat) (h : qw_run qw_tw wC qk_4 my_X4_planLeave cd_X4_planLeave cut Q (E_X4_planLeave Q) N pc (qw_find cd_X4_planLeave pc) ls st σ) : E_X4_planLeave Q pc ls st σ := qw_runs qk_4_wC co_X4_planLeave N pc _ ls st σ (fun _ h => qw_find_mem h) h
theorem mt_X4_planLeave {Q : Option Value → qw_M → Prop} {av : List Value} {σ : qw_M} (hn : Nat.ble (lg_sl av).length 5 = true) (h : E_X4_planLeave Q 0 (lv_args 0 av) [] σ) : qw_Mt qw_tw wC my_X4_planLeave av σ Q := qw_Mt.of rfl (by decide +kernel) hn h
abbrev E_X4_planMore (Q : Option Value → qw_M → Prop) := qw_Ev qw_tw wC qk_4 my_X4_planMore Q
theorem ev_X4_planMore {Q : Option Value → qw_M → Prop} {pc : Nat} {ls : qw_L} {st : List Value} {σ : qw_M} (cut : List Nat) (N : Nat) (h : qw_run qw_tw wC qk_4 my_X4_planMore cd_X4_planMore cut Q (E_X4_planMore Q) N pc (qw_find cd_X4_planMore pc) ls st σ) : E_X4_planMore Q pc ls st σ := qw_runs qk_4_wC co_X4_planMore N pc _ ls st σ (fun _ h => qw_find_mem h) h
theorem mt_X4_planMore {Q : Option Value → qw_M → Prop} {av : List Value} {σ : qw_M} (hn : Nat.ble (lg_sl av).length 4 = true) (h : E_X4_planMore Q 0 (lv_args 0 av) [] σ) : qw_Mt qw_tw wC my_X4_planMore av σ Q := qw_Mt.of rfl (by decide +kernel) hn h
abbrev E_X4_planShift (Q : Option Value → qw_M → Prop) := qw_Ev qw_tw wC qk_4 my_X4_planShift Q
theorem ev_X4_planShift {Q : Option Value → qw_M → Prop} {pc : Nat} {ls : qw_L} {st : List Value} {σ : qw_M} (cut : List Nat) (N : Nat) (h : qw_run qw_tw wC qk_4 my_X4_planShift cd_X4_planShift cut Q (E_X4_planShift Q) N pc (qw_find cd_X4_planShift pc) ls st σ) : E_X4_planShift Q pc ls st σ := qw_runs qk_4_wC co_X4_planShift N pc _ ls st σ (fun _ h => qw_find_mem h) h
theorem mt_X4_planShift {Q : Option Value → qw_M → Prop} {av : List Value} {σ : qw_M} (hn : Nat.ble (lg_sl av).length 3 = true) (h : E_X4_planShift Q 0 (lv_args 0 av) [] σ) : qw_Mt qw_tw wC my_X4_planShift av σ Q := qw_Mt.of rfl (by decide +kernel) hn h
abbrev E_X5_add (Q : Option Value → qw_M → Prop) := qw_Ev qw_tw wC qk_5 my_X5_add Q
theorem ev_X5_add {Q : Option Value → qw_M → Prop} {pc : Nat} {ls : qw_L} {st : List Value} {σ : qw_M} (cut : List Nat) (N : Nat) (h : qw_run qw_tw wC qk_5 my_X5_add cd_X5_add cut Q (E_X5_add Q) N pc (qw_find cd_X5_add pc) ls st σ) : E_X5_add Q pc ls st σ := qw_runs qk_5_wC co_X5_add N pc _ ls st σ (fun _ h => qw_find_mem h) h
theorem mt_X5_add {Q : Option Value → qw_M → Prop} {av : List Value} {σ : qw_M} (hn : Nat.ble (lg_sl av).length 2 = true) (h : E_X5_add Q 0 (lv_args 0 av) [] σ) : qw_Mt qw_tw wC my_X5_add av σ Q := qw_Mt.of rfl (by decide +kernel) hn h
abbrev E_X5_clear (Q : Option Value → qw_M → Prop) := qw_Ev qw_tw wC qk_5 my_X5_clear Q
theorem ev_X5_clear {Q : Option Value → qw_M → Prop} {pc : Nat} {ls : qw_L} {st : List Value} {σ : qw_M} (cut : List Nat) (N : Nat) (h : qw_run qw_tw wC qk_5 my_X5_clear cd_X5_clear cut Q (E_X5_clear Q) N pc (qw_find cd_X5_clear pc) ls st σ) : E_X5_clear Q pc ls st σ := qw_runs qk_5_wC co_X5_clear N pc _ ls st σ (fun _ h => qw_find_mem h) h
theorem mt_X5_clear {Q : Option Value → qw_M → Prop} {av : List Value} {σ : qw_M} (hn : Nat.ble (lg_sl av).length 2 = true) (h : E_X5_clear Q 0 (lv_args 0 av) [] σ) : qw_Mt qw_tw wC my_X5_clear av σ Q := qw_Mt.of rfl (by decide +kernel) hn h
abbrev E_X5_drop (Q : Option Value → qw_M → Prop) := qw_Ev qw_tw wC qk_5 my_X5_drop Q
theorem ev_X5_drop {Q : Option Value → qw_M → Prop} {pc : Nat} {ls : qw_L} {st : List Value} {σ : qw_M} (cut : List Nat) (N : Nat) (h : qw_run qw_tw wC qk_5 my_X5_drop cd_X5_drop cut Q (E_X5_drop Q) N pc (qw_find cd_X5_drop pc) ls st σ) : E_X5_drop Q pc ls st σ := qw_runs qk_5_wC co_X5_drop N pc _ ls st σ (fun _ h => qw_find_mem h) h
theorem mt_X5_drop {Q : Option Value → qw_M → Prop} {av : List Value} {σ : qw_M} (hn : Nat.ble (lg_sl av).length 1 = true) (h : E_X5_drop Q 0 (lv_args 0 av) [] σ) : qw_Mt qw_tw wC my_X5_drop av σ Q := qw_Mt.of rfl (by decide +kernel) hn h
abbrev E_X5_isFull (Q : Option Value → qw_M → Prop) := qw_Ev qw_tw wC qk_5 my_X5_isFull Q
theorem ev_X5_isFull {Q : Option Value → qw_M → Prop} {pc : Nat} {ls : qw_L} {st : List Value} {σ : qw_M} (cut : List Nat) (N : Nat) (h : qw_run qw_tw wC qk_5 my_X5_isFull cd_X5_isFull cut Q (E_X5_isFull Q) N pc (qw_find cd_X5_isFull pc) ls st σ) : E_X5_isFull Q pc ls st σ := qw_runs qk_5_wC co_X5_isFull N pc _ ls st σ (fun _ h => qw_find_mem h) h
theorem mt_X5_isFull {Q : Option Value → qw_M → Prop} {av : List Value} {σ : qw_M} (hn : Nat.ble (lg_sl av).length 1 = true) (h : E_X5_isFull Q 0 (lv_args 0 av) [] σ) : qw_Mt qw_tw wC my_X5_isFull av σ Q := qw_Mt.of rfl (by decide +kernel) hn h
abbrev E_X5_item (Q : Option Value → qw_M → Prop) := qw_Ev qw_tw wC qk_5 my_X5_item Q
theorem ev_X5_item {Q : Option Value → qw_M → Prop} {pc : Nat} {ls : qw_L} {st : List Value} {σ : qw_M} (cut : List Nat) (N : Nat) (h : qw_run qw_tw wC qk_5 my_X5_item cd_X5_item cut Q (E_X5_item Q) N pc (qw_find cd_X5_item pc) ls st σ) : E_X5_item Q pc ls st σ := qw_runs qk_5_wC co_X5_item N pc _ ls st σ (fun _ h => qw_find_mem h) h
theorem mt_X5_item {Q : Option Value → qw_M → Prop} {av : List Value} {σ : qw_M} (hn : Nat.ble (lg_sl av).length 2 = true) (h : E_X5_item Q 0 (lv_args 0 av) [] σ) : qw_Mt qw_tw wC my_X5_item av σ Q := qw_Mt.of rfl (by decide +kernel) hn h
abbrev E_X6_drop (Q : Option Value → qw_M → Prop) := qw_Ev qw_tw wC qk_6 my_X6_drop Q
theorem ev_X6_drop {Q : Option Value → qw_M → Prop} {pc : Nat} {ls : qw_L} {st : List Value} {σ : qw_M} (cut : List Nat) (N : Nat) (h : qw_run qw_tw wC qk_6 my_X6_drop cd_X6_drop cut Q (E_X6_drop Q) N pc (qw_find cd_X6_drop pc) ls st σ) : E_X6_drop Q pc ls st σ := qw_runs qk_6_wC co_X6_drop N pc _ ls st σ (fun _ h => qw_find_mem h) h
theorem mt_X6_drop {Q : Option Value → qw_M → Prop} {av : List Value} {σ : qw_M} (hn : Nat.ble (lg_sl av).length 2 = true) (h : E_X6_drop Q 0 (lv_args 0 av) [] σ) : qw_Mt qw_tw wC my_X6_drop av σ Q := qw_Mt.of rfl (by decide +kernel) hn h
abbrev E_X6_has (Q : Option Value → qw_M → Prop) := qw_Ev qw_tw wC qk_6 my_X6_has Q
theorem ev_X6_has {Q : Option Value → qw_M → Prop} {pc : Nat} {ls : qw_L} {st : List Value} {σ : qw_M} (cut : List Nat) (N : Nat) (h : qw_run qw_tw wC qk_6 my_X6_has cd_X6_has cut Q (E_X6_has Q) N pc (qw_find cd_X6_has pc) ls st σ) : E_X6_has Q pc ls st σ := qw_runs qk_6_wC co_X6_has N pc _ ls st σ (fun _ h => qw_find_mem h) h
theorem mt_X6_has {Q : Option Value → qw_M → Prop} {av : List Value} {σ : qw_M} (hn : Nat.ble (lg_sl av).length 2 = true) (h : E_X6_has Q 0 (lv_args 0 av) [] σ) : qw_Mt qw_tw wC my_X6_has av σ Q := qw_Mt.of rfl (by decide +kernel) hn h
abbrev E_X6_hasRun (Q : Option Value → qw_M → Prop) := qw_Ev qw_tw wC qk_6 my_X6_hasRun Q
theorem ev_X6_hasRun {Q : Option Value → qw_M → Prop} {pc : Nat} {ls : qw_L} {st : List Value} {σ : qw_M} (cut : List Nat) (N : Nat) (h : qw_run qw_tw wC qk_6 my_X6_hasRun cd_X6_hasRun cut Q (E_X6_hasRun Q) N pc (qw_find cd_X6_hasRun pc) ls st σ) : E_X6_hasRun Q pc ls st σ := qw_runs qk_6_wC co_X6_hasRun N pc _ ls st σ (fun _ h => qw_find_mem h) h
theorem mt_X6_hasRun {Q : Option Value → qw_M → Prop} {av : List Value} {σ : qw_M} (hn : Nat.ble (lg_sl av).length 3 = true) (h : E_X6_hasRun Q 0 (lv_args 0 av) [] σ) : qw_Mt qw_tw wC my_X6_hasRun av σ Q := qw_Mt.of rfl (by decide +kernel) hn h
abbrev E_X6_isLost (Q : Option Value → qw_M → Prop) := qw_Ev qw_tw wC qk_6 my_X6_isLost Q
theorem ev_X6_isLost {Q : Option Value → qw_M → Prop} {pc : Nat} {ls : qw_L} {st : List Value} {σ : qw_M} (cut : List Nat) (N : Nat) (h : qw_run qw_tw wC qk_6 my_X6_isLost cd_X6_isLost cut Q (E_X6_isLost Q) N pc (qw_find cd_X6_isLost pc) ls st σ) : E_X6_isLost Q pc ls st σ := qw_runs qk_6_wC co_X6_isLost N pc _ ls st σ (fun _ h => qw_find_mem h) h
theorem mt_X6_isLost {Q : Option Value → qw_M → Prop} {av : List Value} {σ : qw_M} (hn : Nat.ble (lg_sl av).length 1 = true) (h : E_X6_isLost Q 0 (lv_args 0 av) [] σ) : qw_Mt qw_tw wC my_X6_isLost av σ Q := qw_Mt.of rfl (by decide +kernel) hn h
abbrev E_X6_item (Q : Option Value → qw_M → Prop) := qw_Ev qw_tw wC qk_6 my_X6_item Q
theorem ev_X6_item {Q : Option Value → qw_M → Prop} {pc : Nat} {ls : qw_L} {st : List Value} {σ : qw_M} (cut : List Nat) (N : Nat) (h : qw_run qw_tw wC qk_6 my_X6_item cd_X6_item cut Q (E_X6_item Q) N pc (qw_find cd_X6_item pc) ls st σ) : E_X6_item Q pc ls st σ := qw_runs qk_6_wC co_X6_item N pc _ ls st σ (fun _ h => qw_find_mem h) h
theorem mt_X6_item {Q : Option Value → qw_M → Prop} {av : List Value} {σ : qw_M} (hn : Nat.ble (lg_sl av).length 2 = true) (h : E_X6_item Q 0 (lv_args 0 av) [] σ) : qw_Mt qw_tw wC my_X6_item av σ Q := qw_Mt.of rfl (by decide +kernel) hn h
abbrev E_X6_put (Q : Option Value → qw_M → Prop) := qw_Ev qw_tw wC qk_6 my_X6_put Q
theorem ev_X6_put {Q : Option Value → qw_M → Prop} {pc : Nat} {ls : qw_L} {st : List Value} {σ : qw_M} (cut : List Nat) (N : Nat) (h : qw_run qw_tw wC qk_6 my_X6_put cd_X6_put cut Q (E_X6_put Q) N pc (qw_find cd_X6_put pc) ls st σ) : E_X6_put Q pc ls st σ := qw_runs qk_6_wC co_X6_put N pc _ ls st σ (fun _ h => qw_find_mem h) h
theorem mt_X6_put {Q : Option Value → qw_M → Prop} {av : List Value} {σ : qw_M} (hn : Nat.ble (lg_sl av).length 3 = true) (h : E_X6_put Q 0 (lv_args 0 av) [] σ) : qw_Mt qw_tw wC my_X6_put av σ Q := qw_Mt.of rfl (by decide +kernel) hn h
abbrev E_X6_renew (Q : Option Value → qw_M → Prop) := qw_Ev qw_tw wC qk_6 my_X6_renew Q
theorem ev_X6_renew {Q : Option Value → qw_M → Prop} {pc : Nat} {ls : qw_L} {st : List Value} {σ : qw_M} (cut : List Nat) (N : Nat) (h : qw_run qw_tw wC qk_6 my_X6_renew cd_X6_renew cut Q (E_X6_renew Q) N pc (qw_find cd_X6_renew pc) ls st σ) : E_X6_renew Q pc ls st σ := qw_runs qk_6_wC co_X6_renew N pc _ ls st σ (fun _ h => qw_find_mem h) h
theorem mt_X6_renew {Q : Option Value → qw_M → Prop} {av : List Value} {σ : qw_M} (hn : Nat.ble (lg_sl av).length 4 = true) (h : E_X6_renew Q 0 (lv_args 0 av) [] σ) : qw_Mt qw_tw wC my_X6_renew av σ Q := qw_Mt.of rfl (by decide +kernel) hn h
abbrev E_X7_coversOf (Q : Option Value → qw_M → Prop) := qw_Ev qw_tw wC qk_7 my_X7_coversOf Q
theorem ev_X7_coversOf {Q : Option Value → qw_M → Prop} {pc : Nat} {ls : qw_L} {st : List Value} {σ : qw_M} (cut : List Nat) (N : Nat) (h : qw_run qw_tw wC qk_7 my_X7_coversOf cd_X7_coversOf cut Q (E_X7_coversOf Q) N pc (qw_find cd_X7_coversOf pc) ls st σ) : E_X7_coversOf Q pc ls st σ := qw_runs qk_7_wC co_X7_coversOf N pc _ ls st σ (fun _ h => qw_find_mem h) h
theorem mt_X7_coversOf {Q : Option Value → qw_M → Prop} {av : List Value} {σ : qw_M} (hn : Nat.ble (lg_sl av).length 5 = true) (h : E_X7_coversOf Q 0 (lv_args 0 av) [] σ) : qw_Mt qw_tw wC my_X7_coversOf av σ Q := qw_Mt.of rfl (by decide +kernel) hn h
abbrev E_X7_darkestStep (Q : Option Value → qw_M → Prop) := qw_Ev qw_tw wC qk_7 my_X7_darkestStep Q
theorem ev_X7_darkestStep {Q : Option Value → qw_M → Prop} {pc : Nat} {ls : qw_L} {st : List Value} {σ : qw_M} (cut : List Nat) (N : Nat) (h : qw_run qw_tw wC qk_7 my_X7_darkestStep cd_X7_darkestStep cut Q (E_X7_darkestStep Q) N pc (qw_find cd_X7_darkestStep pc) ls st σ) : E_X7_darkestStep Q pc ls st σ := qw_runs qk_7_wC co_X7_darkestStep N pc _ ls st σ (fun _ h => qw_find_mem h) h
theorem mt_X7_darkestStep {Q : Option Value → qw_M → Prop} {av : List Value} {σ : qw_M} (hn : Nat.ble (lg_sl av).length 4 = true) (h : E_X7_darkestStep Q 0 (lv_args 0 av) [] σ) : qw_Mt qw_tw wC my_X7_darkestStep av σ Q := qw_Mt.of rfl (by decide +kernel) hn h
abbrev E_X7_doCues (Q : Option Value → qw_M → Prop) := qw_Ev qw_tw wC qk_7 my_X7_doCues Q
theorem ev_X7_doCues {Q : Option Value → qw_M → Prop} {pc : Nat} {ls : qw_L} {st : List Value} {σ : qw_M} (cut : List Nat) (N : Nat) (h : qw_run qw_tw wC qk_7 my_X7_doCues cd_X7_doCues cut Q (E_X7_doCues Q) N pc (qw_find cd_X7_doCues pc) ls st σ) : E_X7_doCues Q pc ls st σ := qw_runs qk_7_wC co_X7_doCues N pc _ ls st σ (fun _ h => qw_find_mem h) h
theorem mt_X7_doCues {Q : Option Value → qw_M → Prop} {av : List Value} {σ : qw_M} (hn : Nat.ble (lg_sl av).length 4 = true) (h : E_X7_doCues Q 0 (lv_args 0 av) [] σ) : qw_Mt qw_tw wC my_X7_doCues av σ Q := qw_Mt.of rfl (by decide +kernel) hn h
abbrev E_X7_falseNow (Q : Option Value → qw_M → Prop) := qw_Ev qw_tw wC qk_7 my_X7_falseNow Q
theorem ev_X7_falseNow {Q : Option Value → qw_M → Prop} {pc : Nat} {ls : qw_L} {st : List Value} {σ : qw_M} (cut : List Nat) (N : Nat) (h : qw_run qw_tw wC qk_7 my_X7_falseNow cd_X7_falseNow cut Q (E_X7_falseNow Q) N pc (qw_find cd_X7_falseNow pc) ls st σ) : E_X7_falseNow Q pc ls st σ := qw_runs qk_7_wC co_X7_falseNow N pc _ ls st σ (fun _ h => qw_find_mem h) h
theorem mt_X7_falseNow {Q : Option Value → qw_M → Prop} {av : List Value} {σ : qw_M} (hn : Nat.ble (lg_sl av).length 1 = true) (h : E_X7_falseNow Q 0 (lv_args 0 av) [] σ) : qw_Mt qw_tw wC my_X7_falseNow av σ Q := qw_Mt.of rfl (by decide +kernel) hn h
abbrev E_X7_firstTouch (Q : Option Value → qw_M → Prop) := qw_Ev qw_tw wC qk_7 my_X7_firstTouch Q
theorem ev_X7_firstTouch {Q : Option Value → qw_M → Prop} {pc : Nat} {ls : qw_L} {st : List Value} {σ : qw_M} (cut : List Nat) (N : Nat) (h : qw_run qw_tw wC qk_7 my_X7_firstTouch cd_X7_firstTouch cut Q (E_X7_firstTouch Q) N pc (qw_find cd_X7_firstTouch pc) ls st σ) : E_X7_firstTouch Q pc ls st σ := qw_runs qk_7_wC co_X7_firstTouch N pc _ ls st σ (fun _ h => qw_find_mem h) h
theorem mt_X7_firstTouch {Q : Option Value → qw_M → Prop} {av : List Value} {σ : qw_M} (hn : Nat.ble (lg_sl av).length 4 = true) (h : E_X7_firstTouch Q 0 (lv_args 0 av) [] σ) : qw_Mt qw_tw wC my_X7_firstTouch av σ Q := qw_Mt.of rfl (by decide +kernel) hn h
abbrev E_X7_goTo (Q : Option Value → qw_M → Prop) := qw_Ev qw_tw wC qk_7 my_X7_goTo Q
theorem ev_X7_goTo {Q : Option Value → qw_M → Prop} {pc : Nat} {ls : qw_L} {st : List Value} {σ : qw_M} (cut : List Nat) (N : Nat) (h : qw_run qw_tw wC qk_7 my_X7_goTo cd_X7_goTo cut Q (E_X7_goTo Q) N pc (qw_find cd_X7_goTo pc) ls st σ) : E_X7_goTo Q pc ls st σ := qw_runs qk_7_wC co_X7_goTo N pc _ ls st σ (fun _ h => qw_find_mem h) h
theorem mt_X7_goTo {Q : Option Value → qw_M → Prop} {av : List Value} {σ : qw_M} (hn : Nat.ble (lg_sl av).length 2 = true) (h : E_X7_goTo Q 0 (lv_args 0 av) [] σ) : qw_Mt qw_tw wC my_X7_goTo av σ Q := qw_Mt.of rfl (by decide +kernel) hn h
abbrev E_X7_isOut (Q : Option Value → qw_M → Prop) := qw_Ev qw_tw wC qk_7 my_X7_isOut Q
theorem ev_X7_isOut {Q : Option Value → qw_M → Prop} {pc : Nat} {ls : qw_L} {st : List Value} {σ : qw_M} (cut : List Nat) (N : Nat) (h : qw_run qw_tw wC qk_7 my_X7_isOut cd_X7_isOut cut Q (E_X7_isOut Q) N pc (qw_find cd_X7_isOut pc) ls st σ) : E_X7_isOut Q pc ls st σ := qw_runs qk_7_wC co_X7_isOut N pc _ ls st σ (fun _ h => qw_find_mem h) h
theorem mt_X7_isOut {Q : Option Value → qw_M → Prop} {av : List Value} {σ : qw_M} (hn : Nat.ble (lg_sl av).length 3 = true) (h : E_X7_isOut Q 0 (lv_args 0 av) [] σ) : qw_Mt qw_tw wC my_X7_isOut av σ Q := qw_Mt.of rfl (by decide +kernel) hn h
abbrev E_X7_isShownNow (Q : Option Value → qw_M → Prop) := qw_Ev qw_tw wC qk_7 my_X7_isShownNow Q
theorem ev_X7_isShownNow {Q : Option Value → qw_M → Prop} {pc : Nat} {ls : qw_L} {st : List Value} {σ : qw_M} (cut : List Nat) (N : Nat) (h : qw_run qw_tw wC qk_7 my_X7_isShownNow cd_X7_isShownNow cut Q (E_X7_isShownNow Q) N pc (qw_find cd_X7_isShownNow pc) ls st σ) : E_X7_isShownNow Q pc ls st σ := qw_runs qk_7_wC co_X7_isShownNow N pc _ ls st σ (fun _ h => qw_find_mem h) h
theorem mt_X7_isShownNow {Q : Option Value → qw_M → Prop} {av : List Value} {σ : qw_M} (hn : Nat.ble (lg_sl av).length 1 = true) (h : E_X7_isShownNow Q 0 (lv_args 0 av) [] σ) : qw_Mt qw_tw wC my_X7_isShownNow av σ Q := qw_Mt.of rfl (by decide +kernel) hn h
abbrev E_X7_leastBit (Q : Option Value → qw_M → Prop) := qw_Ev qw_tw wC qk_7 my_X7_leastBit Q
theorem ev_X7_leastBit {Q : Option Value → qw_M → Prop} {pc : Nat} {ls : qw_L} {st : List Value} {σ : qw_M} (cut : List Nat) (N : Nat) (h : qw_run qw_tw wC qk_7 my_X7_leastBit cd_X7_leastBit cut Q (E_X7_leastBit Q) N pc (qw_find cd_X7_leastBit pc) ls st σ) : E_X7_leastBit Q pc ls st σ := qw_runs qk_7_wC co_X7_leastBit N pc _ ls st σ (fun _ h => qw_find_mem h) h
theorem mt_X7_leastBit {Q : Option Value → qw_M → Prop} {av : List Value} {σ : qw_M} (hn : Nat.ble (lg_sl av).length 2 = true) (h : E_X7_leastBit Q 0 (lv_args 0 av) [] σ) : qw_Mt qw_tw wC my_X7_leastBit av σ Q := qw_Mt.of rfl (by decide +kernel) hn h
abbrev E_X7_lightUp (Q : Option Value → qw_M → Prop) := qw_Ev qw_tw wC qk_7 my_X7_lightUp Q
theorem ev_X7_lightUp {Q : Option Value → qw_M → Prop} {pc : Nat} {ls : qw_L} {st : List Value} {σ : qw_M} (cut : List Nat) (N : Nat) (h : qw_run qw_tw wC qk_7 my_X7_lightUp cd_X7_lightUp cut Q (E_X7_lightUp Q) N pc (qw_find cd_X7_lightUp pc) ls st σ) : E_X7_lightUp Q pc ls st σ := qw_runs qk_7_wC co_X7_lightUp N pc _ ls st σ (fun _ h => qw_find_mem h) h
theorem mt_X7_lightUp {Q : Option Value → qw_M → Prop} {av : List Value} {σ : qw_M} (hn : Nat.ble (lg_sl av).length 2 = true) (h : E_X7_lightUp Q 0 (lv_args 0 av) [] σ) : qw_Mt qw_tw wC my_X7_lightUp av σ Q := qw_Mt.of rfl (by decide +kernel) hn h
abbrev E_X7_open (Q : Option Value → qw_M → Prop) := qw_Ev qw_tw wC qk_7 my_X7_open Q
theorem ev_X7_open {Q : Option Value → qw_M → Prop} {pc : Nat} {ls : qw_L} {st : List Value} {σ : qw_M} (cut : List Nat) (N : Nat) (h : qw_run qw_tw wC qk_7 my_X7_open cd_X7_open cut Q (E_X7_open Q) N pc (qw_find cd_X7_open pc) ls st σ) : E_X7_open Q pc ls st σ := qw_runs qk_7_wC co_X7_open N pc _ ls st σ (fun _ h => qw_find_mem h) h
theorem mt_X7_open {Q : Option Value → qw_M → Prop} {av : List Value} {σ : qw_M} (hn : Nat.ble (lg_sl av).length 1 = true) (h : E_X7_open Q 0 (lv_args 0 av) [] σ) : qw_Mt qw_tw wC my_X7_open av σ Q := qw_Mt.of rfl (by decide +kernel) hn h
abbrev E_X7_shownSteps (Q : Option Value → qw_M → Prop) := qw_Ev qw_tw wC qk_7 my_X7_shownSteps Q
theorem ev_X7_shownSteps {Q : Option Value → qw_M → Prop} {pc : Nat} {ls : qw_L} {st : List Value} {σ : qw_M} (cut : List Nat) (N : Nat) (h : qw_run qw_tw wC qk_7 my_X7_shownSteps cd_X7_shownSteps cut Q (E_X7_shownSteps Q) N pc (qw_find cd_X7_shownSteps pc) ls st σ) : E_X7_shownSteps Q pc ls st σ := qw_runs qk_7_wC co_X7_shownSteps N pc _ ls st σ (fun _ h => qw_find_mem h) h
theorem mt_X7_shownSteps {Q : Option Value → qw_M → Prop} {av : List Value} {σ : qw_M} (hn : Nat.ble (lg_sl av).length 4 = true) (h : E_X7_shownSteps Q 0 (lv_args 0 av) [] σ) : qw_Mt qw_tw wC my_X7_shownSteps av σ Q := qw_Mt.of rfl (by decide +kernel) hn h
abbrev E_X7_whereabouts (Q : Option Value → qw_M → Prop) := qw_Ev qw_tw wC qk_7 my_X7_whereabouts Q
theorem ev_X7_whereabouts {Q : Option Value → qw_M → Prop} {pc : Nat} {ls : qw_L} {st : List Value} {σ : qw_M} (cut : List Nat) (N : Nat) (h : qw_run qw_tw wC qk_7 my_X7_whereabouts cd_X7_whereabouts cut Q (E_X7_whereabouts Q) N pc (qw_find cd_X7_whereabouts pc) ls st σ) : E_X7_whereabouts Q pc ls st σ := qw_runs qk_7_wC co_X7_whereabouts N pc _ ls st σ (fun _ h => qw_find_mem h) h
theorem mt_X7_whereabouts {Q : Option Value → qw_M → Prop} {av : List Value} {σ : qw_M} (hn : Nat.ble (lg_sl av).length 5 = true) (h : E_X7_whereabouts Q 0 (lv_args 0 av) [] σ) : qw_Mt qw_tw wC my_X7_whereabouts av σ Q := qw_Mt.of rfl (by decide +kernel) hn h
abbrev E_X8_coverOf (Q : Option Value → qw_M → Prop) := qw_Ev qw_tw wC qk_8 my_X8_coverOf Q
theorem ev_X8_coverOf {Q : Option Value → qw_M → Prop} {pc : Nat} {ls : qw_L} {st : List Value} {σ : qw_M} (cut : List Nat) (N : Nat) (h : qw_run qw_tw wC qk_8 my_X8_coverOf cd_X8_coverOf cut Q (E_X8_coverOf Q) N pc (qw_find cd_X8_coverOf pc) ls st σ) : E_X8_coverOf Q pc ls st σ := qw_runs qk_8_wC co_X8_coverOf N pc _ ls st σ (fun _ h => qw_find_mem h) h
theorem mt_X8_coverOf {Q : Option Value → qw_M → Prop} {av : List Value} {σ : qw_M} (hn : Nat.ble (lg_sl av).length 3 = true) (h : E_X8_coverOf Q 0 (lv_args 0 av) [] σ) : qw_Mt qw_tw wC my_X8_coverOf av σ Q := qw_Mt.of rfl (by decide +kernel) hn h
abbrev E_X8_depthOf (Q : Option Value → qw_M → Prop) := qw_Ev qw_tw wC qk_8 my_X8_depthOf Q
theorem ev_X8_depthOf {Q : Option Value → qw_M → Prop} {pc : Nat} {ls : qw_L} {st : List Value} {σ : qw_M} (cut : List Nat) (N : Nat) (h : qw_run qw_tw wC qk_8 my_X8_depthOf cd_X8_depthOf cut Q (E_X8_depthOf Q) N pc (qw_find cd_X8_depthOf pc) ls st σ) : E_X8_depthOf Q pc ls st σ := qw_runs qk_8_wC co_X8_depthOf N pc _ ls st σ (fun _ h => qw_find_mem h) h
theorem mt_X8_depthOf {Q : Option Value → qw_M → Prop} {av : List Value} {σ : qw_M} (hn : Nat.ble (lg_sl av).length 2 = true) (h : E_X8_depthOf Q 0 (lv_args 0 av) [] σ) : qw_Mt qw_tw wC my_X8_depthOf av σ Q := qw_Mt.of rfl (by decide +kernel) hn h
abbrev E_X8_dimBy (Q : Option Value → qw_M → Prop) := qw_Ev qw_tw wC qk_8 my_X8_dimBy Q
theorem ev_X8_dimBy {Q : Option Value → qw_M → Prop} {pc : Nat} {ls : qw_L} {st : List Value} {σ : qw_M} (cut : List Nat) (N : Nat) (h : qw_run qw_tw wC qk_8 my_X8_dimBy cd_X8_dimBy cut Q (E_X8_dimBy Q) N pc (qw_find cd_X8_dimBy pc) ls st σ) : E_X8_dimBy Q pc ls st σ := qw_runs qk_8_wC co_X8_dimBy N pc _ ls st σ (fun _ h => qw_find_mem h) h
theorem mt_X8_dimBy {Q : Option Value → qw_M → Prop} {av : List Value} {σ : qw_M} (hn : Nat.ble (lg_sl av).length 2 = true) (h : E_X8_dimBy Q 0 (lv_args 0 av) [] σ) : qw_Mt qw_tw wC my_X8_dimBy av σ Q := qw_Mt.of rfl (by decide +kernel) hn h
abbrev E_X8_forgetCovers (Q : Option Value → qw_M → Prop) := qw_Ev qw_tw wC qk_8 my_X8_forgetCovers Q
theorem ev_X8_forgetCovers {Q : Option Value → qw_M → Prop} {pc : Nat} {ls : qw_L} {st : List Value} {σ : qw_M} (cut : List Nat) (N : Nat) (h : qw_run qw_tw wC qk_8 my_X8_forgetCovers cd_X8_forgetCovers cut Q (E_X8_forgetCovers Q) N pc (qw_find cd_X8_forgetCovers pc) ls st σ) : E_X8_forgetCovers Q pc ls st σ := qw_runs qk_8_wC co_X8_forgetCovers N pc _ ls st σ (fun _ h => qw_find_mem h) h
theorem mt_X8_forgetCovers {Q : Option Value → qw_M → Prop} {av : List Value} {σ : qw_M} (hn : Nat.ble (lg_sl av).length 2 = true) (h : E_X8_forgetCovers Q 0 (lv_args 0 av) [] σ) : qw_Mt qw_tw wC my_X8_forgetCovers av σ Q := qw_Mt.of rfl (by decide +kernel) hn h
abbrev E_X8_move (Q : Option Value → qw_M → Prop) := qw_Ev qw_tw wC qk_8 my_X8_move Q
theorem ev_X8_move {Q : Option Value → qw_M → Prop} {pc : Nat} {ls : qw_L} {st : List Value} {σ : qw_M} (cut : List Nat) (N : Nat) (h : qw_run qw_tw wC qk_8 my_X8_move cd_X8_move cut Q (E_X8_move Q) N pc (qw_find cd_X8_move pc) ls st σ) : E_X8_move Q pc ls st σ := qw_runs qk_8_wC co_X8_move N pc _ ls st σ (fun _ h => qw_find_mem h) h
theorem mt_X8_move {Q : Option Value → qw_M → Prop} {av : List Value} {σ : qw_M} (hn : Nat.ble (lg_sl av).length 3 = true) (h : E_X8_move Q 0 (lv_args 0 av) [] σ) : qw_Mt qw_tw wC my_X8_move av σ Q := qw_Mt.of rfl (by decide +kernel) hn h
abbrev E_X8_paint (Q : Option Value → qw_M → Prop) := qw_Ev qw_tw wC qk_8 my_X8_paint Q
theorem ev_X8_paint {Q : Option Value → qw_M → Prop} {pc : Nat} {ls : qw_L} {st : List Value} {σ : qw_M} (cut : List Nat) (N : Nat) (h : qw_run qw_tw wC qk_8 my_X8_paint cd_X8_paint cut Q (E_X8_paint Q) N pc (qw_find cd_X8_paint pc) ls st σ) : E_X8_paint Q pc ls st σ := qw_runs qk_8_wC co_X8_paint N pc _ ls st σ (fun _ h => qw_find_mem h) h
theorem mt_X8_paint {Q : Option Value → qw_M → Prop} {av : List Value} {σ : qw_M} (hn : Nat.ble (lg_sl av).length 3 = true) (h : E_X8_paint Q 0 (lv_args 0 av) [] σ) : qw_Mt qw_tw wC my_X8_paint av σ Q := qw_Mt.of rfl (by decide +kernel) hn h
abbrev E_X8_placeOf (Q : Option Value → qw_M → Prop) := qw_Ev qw_tw wC qk_8 my_X8_placeOf Q
theorem ev_X8_placeOf {Q : Option Value → qw_M → Prop} {pc : Nat} {ls : qw_L} {st : List Value} {σ : qw_M} (cut : List Nat) (N : Nat) (h : qw_run qw_tw wC qk_8 my_X8_placeOf cd_X8_placeOf cut Q (E_X8_placeOf Q) N pc (qw_find cd_X8_placeOf pc) ls st σ) : E_X8_placeOf Q pc ls st σ := qw_runs qk_8_wC co_X8_placeOf N pc _ ls st σ (fun _ h => qw_find_mem h) h
theorem mt_X8_placeOf {Q : Option Value → qw_M → Prop} {av : List Value} {σ : qw_M} (hn : Nat.ble (lg_sl av).length 2 = true) (h : E_X8_placeOf Q 0 (lv_args 0 av) [] σ) : qw_Mt qw_tw wC my_X8_placeOf av σ Q := qw_Mt.of rfl (by decide +kernel) hn h
abbrev E_X8_put (Q : Option Value → qw_M → Prop) := qw_Ev qw_tw wC qk_8 my_X8_put Q
theorem ev_X8_put {Q : Option Value → qw_M → Prop} {pc : Nat} {ls : qw_L} {st : List Value} {σ : qw_M} (cut : List Nat) (N : Nat) (h : qw_run qw_tw wC qk_8 my_X8_put cd_X8_put cut Q (E_X8_put Q) N pc (qw_find cd_X8_put pc) ls st σ) : E_X8_put Q pc ls st σ := qw_runs qk_8_wC co_X8_put N pc _ ls st σ (fun _ h => qw_find_mem h) h
theorem mt_X8_put {Q : Option Value → qw_M → Prop} {av : List Value} {σ : qw_M} (hn : Nat.ble (lg_sl av).length 4 = true) (h : E_X8_put Q 0 (lv_args 0 av) [] σ) : qw_Mt qw_tw wC my_X8_put av σ Q := qw_Mt.of rfl (by decide +kernel) hn h
abbrev E_X8_rayTo (Q : Option Value → qw_M → Prop) := qw_Ev qw_tw wC qk_8 my_X8_rayTo Q
theorem ev_X8_rayTo {Q : Option Value → qw_M → Prop} {pc : Nat} {ls : qw_L} {st : List Value} {σ : qw_M} (cut : List Nat) (N : Nat) (h : qw_run qw_tw wC qk_8 my_X8_rayTo cd_X8_rayTo cut Q (E_X8_rayTo Q) N pc (qw_find cd_X8_rayTo pc) ls st σ) : E_X8_rayTo Q pc ls st σ := qw_runs qk_8_wC co_X8_rayTo N pc _ ls st σ (fun _ h => qw_find_mem h) h
theorem mt_X8_rayTo {Q : Option Value → qw_M → Prop} {av : List Value} {σ : qw_M} (hn : Nat.ble (lg_sl av).length 3 = true) (h : E_X8_rayTo Q 0 (lv_args 0 av) [] σ) : qw_Mt qw_tw wC my_X8_rayTo av σ Q := qw_Mt.of rfl (by decide +kernel) hn h
abbrev E_X8_shine (Q : Option Value → qw_M → Prop) := qw_Ev qw_tw wC qk_8 my_X8_shine Q
theorem ev_X8_shine {Q : Option Value → qw_M → Prop} {pc : Nat} {ls : qw_L} {st : List Value} {σ : qw_M} (cut : List Nat) (N : Nat) (h : qw_run qw_tw wC qk_8 my_X8_shine cd_X8_shine cut Q (E_X8_shine Q) N pc (qw_find cd_X8_shine pc) ls st σ) : E_X8_shine Q pc ls st σ := qw_runs qk_8_wC co_X8_shine N pc _ ls st σ (fun _ h => qw_find_mem h) h
theorem mt_X8_shine {Q : Option Value → qw_M → Prop} {av : List Value} {σ : qw_M} (hn : Nat.ble (lg_sl av).length 4 = true) (h : E_X8_shine Q 0 (lv_args 0 av) [] σ) : qw_Mt qw_tw wC my_X8_shine av σ Q := qw_Mt.of rfl (by decide +kernel) hn h
abbrev E_X8_start (Q : Option Value → qw_M → Prop) := qw_Ev qw_tw wC qk_8 my_X8_start Q
theorem ev_X8_start {Q : Option Value → qw_M → Prop} {pc : Nat} {ls : qw_L} {st : List Value} {σ : qw_M} (cut : List Nat) (N : Nat) (h : qw_run qw_tw wC qk_8 my_X8_start cd_X8_start cut Q (E_X8_start Q) N pc (qw_find cd_X8_start pc) ls st σ) : E_X8_start Q pc ls st σ := qw_runs qk_8_wC co_X8_start N pc _ ls st σ (fun _ h => qw_find_mem h) h
theorem mt_X8_start {Q : Option Value → qw_M → Prop} {av : List Value} {σ : qw_M} (hn : Nat.ble (lg_sl av).length 3 = true) (h : E_X8_start Q 0 (lv_args 0 av) [] σ) : qw_Mt qw_tw wC my_X8_start av σ Q := qw_Mt.of rfl (by decide +kernel) hn h
abbrev E_X8_touchingPair (Q : Option Value → qw_M → Prop) := qw_Ev qw_tw wC qk_8 my_X8_touchingPair Q
theorem ev_X8_touchingPair {Q : Option Value → qw_M → Prop} {pc : Nat} {ls : qw_L} {st : List Value} {σ : qw_M} (cut : List Nat) (N : Nat) (h : qw_run qw_tw wC qk_8 my_X8_touchingPair cd_X8_touchingPair cut Q (E_X8_touchingPair Q) N pc (qw_find cd_X8_touchingPair pc) ls st σ) : E_X8_touchingPair Q pc ls st σ := qw_runs qk_8_wC co_X8_touchingPair N pc _ ls st σ (fun _ h => qw_find_mem h) h
theorem mt_X8_touchingPair {Q : Option Value → qw_M → Prop} {av : List Value} {σ : qw_M} (hn : Nat.ble (lg_sl av).length 3 = true) (h : E_X8_touchingPair Q 0 (lv_args 0 av) [] σ) : qw_Mt qw_tw wC my_X8_touchingPair av σ Q := qw_Mt.of rfl (by decide +kernel) hn h
abbrev E_X8_workOutCover (Q : Option Value → qw_M → Prop) := qw_Ev qw_tw wC qk_8 my_X8_workOutCover Q
theorem ev_X8_workOutCover {Q : Option Value → qw_M → Prop} {pc : Nat} {ls : qw_L} {st : List Value} {σ : qw_M} (cut : List Nat) (N : Nat) (h : qw_run qw_tw wC qk_8 my_X8_workOutCover cd_X8_workOutCover cut Q (E_X8_workOutCover Q) N pc (qw_find cd_X8_workOutCover pc) ls st σ) : E_X8_workOutCover Q pc ls st σ := qw_runs qk_8_wC co_X8_workOutCover N pc _ ls st σ (fun _ h => qw_find_mem h) h
theorem mt_X8_workOutCover {Q : Option Value → qw_M → Prop} {av : List Value} {σ : qw_M} (hn : Nat.ble (lg_sl av).length 5 = true) (h : E_X8_workOutCover Q 0 (lv_args 0 av) [] σ) : qw_Mt qw_tw wC my_X8_workOutCover av σ Q := qw_Mt.of rfl (by decide +kernel) hn h
abbrev E_X9_detail (Q : Option Value → qw_M → Prop) := qw_Ev qw_tw wC qk_9 my_X9_detail Q
theorem ev_X9_detail {Q : Option Value → qw_M → Prop} {pc : Nat} {ls : qw_L} {st : List Value} {σ : qw_M} (cut : List Nat) (N : Nat) (h : qw_run qw_tw wC qk_9 my_X9_detail cd_X9_detail cut Q (E_X9_detail Q) N pc (qw_find cd_X9_detail pc) ls st σ) : E_X9_detail Q pc ls st σ := qw_runs qk_9_wC co_X9_detail N pc _ ls st σ (fun _ h => qw_find_mem h) h
theorem mt_X9_detail {Q : Option Value → qw_M → Prop} {av : List Value} {σ : qw_M} (hn : Nat.ble (lg_sl av).length 3 = true) (h : E_X9_detail Q 0 (lv_args 0 av) [] σ) : qw_Mt qw_tw wC my_X9_detail av σ Q := qw_Mt.of rfl (by decide +kernel) hn h
abbrev E_X9_has (Q : Option Value → qw_M → Prop) := qw_Ev qw_tw wC qk_9 my_X9_has Q
theorem ev_X9_has {Q : Option Value → qw_M → Prop} {pc : Nat} {ls : qw_L} {st : List Value} {σ : qw_M} (cut : List Nat) (N : Nat) (h : qw_run qw_tw wC qk_9 my_X9_has cd_X9_has cut Q (E_X9_has Q) N pc (qw_find cd_X9_has pc) ls st σ) : E_X9_has Q pc ls st σ := qw_runs qk_9_wC co_X9_has N pc _ ls st σ (fun _ h => qw_find_mem h) h
theorem mt_X9_has {Q : Option Value → qw_M → Prop} {av : List Value} {σ : qw_M} (hn : Nat.ble (lg_sl av).length 2 = true) (h : E_X9_has Q 0 (lv_args 0 av) [] σ) : qw_Mt qw_tw wC my_X9_has av σ Q := qw_Mt.of rfl (by decide +kernel) hn h
abbrev E_X9_parse (Q : Option Value → qw_M → Prop) := qw_Ev qw_tw wC qk_9 my_X9_parse Q
theorem ev_X9_parse {Q : Option Value → qw_M → Prop} {pc : Nat} {ls : qw_L} {st : List Value} {σ : qw_M} (cut : List Nat) (N : Nat) (h : qw_run qw_tw wC qk_9 my_X9_parse cd_X9_parse cut Q (E_X9_parse Q) N pc (qw_find cd_X9_parse pc) ls st σ) : E_X9_parse Q pc ls st σ := qw_runs qk_9_wC co_X9_parse N pc _ ls st σ (fun _ h => qw_find_mem h) h
theorem mt_X9_parse {Q : Option Value → qw_M → Prop} {av : List Value} {σ : qw_M} (hn : Nat.ble (lg_sl av).length 6 = true) (h : E_X9_parse Q 0 (lv_args 0 av) [] σ) : qw_Mt qw_tw wC my_X9_parse av σ Q := qw_Mt.of rfl (by decide +kernel) hn h
abbrev E_X9_takes (Q : Option Value → qw_M → Prop) := qw_Ev qw_tw wC qk_9 my_X9_takes Q
theorem ev_X9_takes {Q : Option Value → qw_M → Prop} {pc : Nat} {ls : qw_L} {st : List Value} {σ : qw_M} (cut : List Nat) (N : Nat) (h : qw_run qw_tw wC qk_9 my_X9_takes cd_X9_takes cut Q (E_X9_takes Q) N pc (qw_find cd_X9_takes pc) ls st σ) : E_X9_takes Q pc ls st σ := qw_runs qk_9_wC co_X9_takes N pc _ ls st σ (fun _ h => qw_find_mem h) h
theorem mt_X9_takes {Q : Option Value → qw_M → Prop} {av : List Value} {σ : qw_M} (hn : Nat.ble (lg_sl av).length 4 = true) (h : E_X9_takes Q 0 (lv_args 0 av) [] σ) : qw_Mt qw_tw wC my_X9_takes av σ Q := qw_Mt.of rfl (by decide +kernel) hn h
abbrev E_X9_takesMark (Q : Option Value → qw_M → Prop) := qw_Ev qw_tw wC qk_9 my_X9_takesMark Q
theorem ev_X9_takesMark {Q : Option Value → qw_M → Prop} {pc : Nat} {ls : qw_L} {st : List Value} {σ : qw_M} (cut : List Nat) (N : Nat) (h : qw_run qw_tw wC qk_9 my_X9_takesMark cd_X9_takesMark cut Q (E_X9_takesMark Q) N pc (qw_find cd_X9_takesMark pc) ls st σ) : E_X9_takesMark Q pc ls st σ := qw_runs qk_9_wC co_X9_takesMark N pc _ ls st σ (fun _ h => qw_find_mem h) h
theorem mt_X9_takesMark {Q : Option Value → qw_M → Prop} {av : List Value} {σ : qw_M} (hn : Nat.ble (lg_sl av).length 3 = true) (h : E_X9_takesMark Q 0 (lv_args 0 av) [] σ) : qw_Mt qw_tw wC my_X9_takesMark av σ Q := qw_Mt.of rfl (by decide +kernel) hn h
end
section
/-! helpers: branches, calls, what a method leaves as it was -/
theorem vt {c a b : Prop} (h : c) (k : a) : qw_br c a b := ⟨fun _ => k, fun n => absurd h n⟩
theorem vf {c a b : Prop} (h : ¬ c) (k : b) : qw_br c a b := ⟨fun n => absurd n h, fun _ => k⟩
theorem vb {c a b : Prop} (k : c → a) (j : ¬ c → b) : qw_br c a b := ⟨k, j⟩
theorem vnt {c a b : Prop} (h : ¬ c) (k : a) : qw_nb c a b := ⟨fun _ => k, fun n => absurd n h⟩
theorem vnf {c a b : Prop} (h : c) (k : b) : qw_nb c a b := ⟨fun n => absurd h n, fun _ => k⟩
theorem vnb {c a b : Prop} (k : ¬ c → a) (j : c → b) : qw_nb c a b := ⟨k, j⟩
theorem nle (a b : Nat) (h : a ≤ b) (hb : b < 2 ^ 31) : nI a ≤ nI b := nI_le h hb
theorem nnle (a b : Nat) (h : b < a) (ha : a < 2 ^ 31) : ¬ nI a ≤ nI b := nI_ge h ha
theorem nlt (a b : Nat) (h : a < b) (hb : b < 2 ^ 31) : nI a < nI b := nI_lt h hb
theorem nnlt (a b : Nat) (h : b ≤ a) (ha : a < 2 ^ 31) : ¬ nI a < nI b := nI_nlt h ha
theorem neq (a b : Nat) (h : a = b) : nI a = nI b := by rw [h]
theorem nne (a b : Nat) (h : a ≠ b) (ha : a < 2 ^ 31) (hb : b < 2 ^ 31) : ¬ nI a = nI b := fun e => h ((nI_eq ha hb).mp e)
theorem nin (a N : Nat) (h : a < N) (hN : N < 2 ^ 31) : vp_in (nI a) N := vp_in_nI h hN
/-- cells that stay -/
def fr (l : List Nat) (σ σ' : qw_M) : Prop := ∀ k, k ∉ l → σ' k = σ k
theorem fr.rf {l : List Nat} {σ : qw_M} : fr l σ σ := fun _ _ => rfl
theorem fr.tr {l : List Nat} {σ σ' σ2 : qw_M} (h : fr l σ σ') (h2 : fr l σ' σ2) : fr l σ σ2 := fun k hk => (h2 k hk).trans (h k hk)
theorem fr.mo {l l2 : List Nat} {σ σ' : qw_M} (h : fr l σ σ') (hs : ∀ k ∈ l, k ∈ l2) : fr l2 σ σ' := fun k hk => h k (fun z => hk (hs k z))
theorem fr.pi {l : List Nat} {σ : qw_M} {k j : Nat} {x : Int32} (hk : k ∈ l) : fr l σ (qw_pi σ k j x) := fun q hq => by
  unfold qw_pi qw_up
  exact if_neg (fun e : q = k => hq (by rw [e]; exact hk))
theorem fr.pl {l : List Nat} {σ : qw_M} {k j : Nat} {x : Int64} (hk : k ∈ l) : fr l σ (qw_pl σ k j x) := fun q hq => by
  unfold qw_pl qw_up
  exact if_neg (fun e : q = k => hq (by rw [e]; exact hk))
theorem pi_eq {σ : qw_M} {k j : Nat} {x : Int32} : (qw_pi σ k j x k).1 j = x := by simp [qw_pi, qw_up, upd]
theorem pi_ne {σ : qw_M} {k j q : Nat} {x : Int32} (h : q ≠ j) : (qw_pi σ k j x k).1 q = (σ k).1 q := by simp [qw_pi, qw_up, upd, h]
theorem pi_off {σ : qw_M} {k j c : Nat} {x : Int32} (h : c ≠ k) : qw_pi σ k j x c = σ c := by simp [qw_pi, qw_up, h]
theorem pi_at {σ : qw_M} {k j q : Nat} {x : Int32} : (qw_pi σ k j x k).1 q = if q = j then x else (σ k).1 q := by simp [qw_pi, qw_up, upd]
/-- a judgement may say less -/
theorem mt_mono {tw : List Cond} {w : qw_Wd} {Y : qw_Y} {av : List Value} {σ : qw_M} {Q Q2 : Option Value → qw_M → Prop} (h : qw_Mt tw w Y av σ Q) (hq : ∀ r σ', Q r σ' → Q2 r σ') : qw_Mt tw w Y av σ Q2 := by
  intro l g hI p e ha hc hk s m args below hf happ hP hK
  obtain ⟨k, o, h1, h2, h3, hQ⟩ := h l g hI p e ha hc hk s m args below hf happ hP hK
  exact ⟨k, o, h1, h2, h3, qw_Z.mono hq hQ.1, hQ.2⟩
/-! Row: five of them, each with its array behind it -/
def qr_row (k N : Nat) : Prop := (k = 1 ∧ N = 87) ∨ (k = 3 ∧ N = 40) ∨ (k = 5 ∧ N = 32) ∨ (k = 19 ∧ N = 8) ∨ (k = 35 ∧ N = 8)
theorem qr_cap {k N : Nat} (h : qr_row k N) : 8 ≤ N ∧ N ≤ 87 := by unfold qr_row at h; omega
/-- item: what lies there, -1 elsewhere -/
theorem m_item {k N n : Nat} (hk : qr_row k N) {σ : qw_M} (hn : (σ k).1 1 = nI n) (hN : n ≤ N) (i : Int32) : qw_Mt qw_tw wC my_X5_item [.ref k, .int i] σ (fun r σ' => σ' = σ ∧ ((∃ j, j < n ∧ i = nI j ∧ r = some (.int ((σ (k + 1)).1 j))) ∨ ((∀ j, j < n → i ≠ nI j) ∧ r = some (.int (-1))))) := by
  have hc := qr_cap hk
  rcases hk with ⟨rfl, rfl⟩ | ⟨rfl, rfl⟩ | ⟨rfl, rfl⟩ | ⟨rfl, rfl⟩ | ⟨rfl, rfl⟩
  all_goals
    refine mt_X5_item rfl (ev_X5_item [] 100 ?_)
    refine vb (fun a => ?_) (fun a => ?_)
    · exact ⟨rfl, Or.inr ⟨fun j hj e => by subst e; exact nI_pos (by omega) a, rfl⟩⟩
    · refine vb (fun b => ?_) (fun b => ?_)
      · rw [hn] at b
        exact ⟨rfl, Or.inr ⟨fun j hj e => by subst e; exact nI_ge hj (by omega) b, rfl⟩⟩
      · rw [hn] at b
        obtain ⟨j, hj, rfl⟩ := nI_of a
        have hjn : j < n := by
          rcases Nat.lt_or_ge j n with q | q
          · exact q
          · exact absurd (nI_le q hj) b
        refine vf (nI_ge (a := j) (by omega) (by decide)) ?_
        refine And.intro (vp_in_nI (by omega) (by decide)) ?_
        refine ⟨rfl, Or.inl ⟨j, hjn, rfl, ?_⟩⟩
        rw [nI_clamp (by omega)]
theorem m_isFull {k N n : Nat} (hk : qr_row k N) {σ : qw_M} (hn : (σ k).1 1 = nI n) (hN : n ≤ N) : qw_Mt qw_tw wC my_X5_isFull [.ref k] σ (fun r σ' => σ' = σ ∧ ((n < N ∧ r = some (.int 0)) ∨ (n = N ∧ r = some (.int 1)))) := by
  have hc := qr_cap hk
  rcases hk with ⟨rfl, rfl⟩ | ⟨rfl, rfl⟩ | ⟨rfl, rfl⟩ | ⟨rfl, rfl⟩ | ⟨rfl, rfl⟩
  all_goals
    refine mt_X5_isFull rfl (ev_X5_isFull [] 100 ?_)
    refine vb (fun a => ?_) (fun a => ?_)
    · rw [hn, nI_ltI (by omega) (by omega)] at a
      exact ⟨Or.inl rfl, rfl, Or.inl ⟨a, rfl⟩⟩
    · rw [hn, nI_ltI (by omega) (by omega)] at a
      exact ⟨Or.inr rfl, rfl, Or.inr ⟨by omega, rfl⟩⟩
theorem m_add {k N n : Nat} (hk : qr_row k N) {σ : qw_M} (hn : (σ k).1 1 = nI n) (hN : n < N) (x : Int32) : qw_Mt qw_tw wC my_X5_add [.ref k, .int x] σ (fun r σ' => σ' = qw_pi (qw_pi σ (k + 1) n x) k 1 (nI (n + 1)) ∧ r = some (.int (nI (n + 1)))) := by
  have hc := qr_cap hk
  rcases hk with ⟨rfl, rfl⟩ | ⟨rfl, rfl⟩ | ⟨rfl, rfl⟩ | ⟨rfl, rfl⟩ | ⟨rfl, rfl⟩
  all_goals
    refine mt_X5_add rfl (ev_X5_add [] 100 ?_)
    refine vf (by rw [hn]; exact nI_pos (by omega)) ?_
    refine vf (by rw [hn]; exact nI_ge hN (by decide)) ?_
    refine And.intro (by rw [hn]; exact vp_in_nI hN (by decide)) ?_
    have e : nI n + nI 1 = nI (n + 1) := nI_add n 1
    rw [← hn] at e
    refine ⟨?_, ?_⟩
    · show qw_pi (qw_pi σ _ ((σ _).1 1).toNatClampNeg x) _ 1 ((σ _).1 1 + nI 1) = _
      rw [e, hn, nI_clamp (by omega)]
    · show some (Value.int ((σ _).1 1 + nI 1)) = _
      rw [e]
theorem m_drop {k N n : Nat} (hk : qr_row k N) {σ : qw_M} (hn : (σ k).1 1 = nI n) (hN : n ≤ N) : qw_Mt qw_tw wC my_X5_drop [.ref k] σ (fun r σ' => (n = 0 ∧ σ' = σ ∧ r = some (.int (nI 0))) ∨ (∃ j, n = j + 1 ∧ σ' = qw_pi σ k 1 (nI j) ∧ r = some (.int (nI j)))) := by
  have hc := qr_cap hk
  rcases hk with ⟨rfl, rfl⟩ | ⟨rfl, rfl⟩ | ⟨rfl, rfl⟩ | ⟨rfl, rfl⟩ | ⟨rfl, rfl⟩
  all_goals
    refine mt_X5_drop rfl (ev_X5_drop [] 100 ?_)
    cases n with
    | zero =>
      refine vt (by rw [hn]; exact Int32.le_refl _) ?_
      refine Or.inl ⟨rfl, rfl, ?_⟩
      rw [hn]
    | succ j =>
      refine vf (by rw [hn]; exact nI_nle (by omega) (by omega)) ?_
      have e : nI (j + 1) - nI 1 = nI j := nI_pred j
      rw [← hn] at e
      refine Or.inr ⟨j, rfl, ?_, ?_⟩
      · show qw_pi σ _ 1 ((σ _).1 1 - nI 1) = _
        rw [e]
      · show some (Value.int ((σ _).1 1 - nI 1)) = _
        rw [e]
theorem m_clear {k N n : Nat} (hk : qr_row k N) {σ : qw_M} (hn : (σ k).1 1 = nI n) : qw_Mt qw_tw wC my_X5_clear [.ref k] σ (fun r σ' => σ' = qw_pi σ k 1 (nI 0) ∧ r = some (.int (nI n))) := by
  rcases hk with ⟨rfl, rfl⟩ | ⟨rfl, rfl⟩ | ⟨rfl, rfl⟩ | ⟨rfl, rfl⟩ | ⟨rfl, rfl⟩
  all_goals
    refine mt_X5_clear rfl (ev_X5_clear [] 100 ?_)
    refine ⟨rfl, ?_⟩
    rw [← hn]
end
section
/-! BITS: the family bt of kit/laws (pasted), and what is added here -/
/-! ===== Int32 by its bits: bt x i ===== -/
def bt (x : Int32) (i : Nat) : Bool := x.toBitVec.getLsbD i
theorem b_ext {x y : Int32} (h : ∀ i, i < 32 → bt x i = bt y i) : x = y := Int32.toBitVec_inj.mp (BitVec.eq_of_getLsbD_eq (fun i hi => h i hi))
theorem b_or (x y : Int32) (i : Nat) : bt (x ||| y) i = (bt x i || bt y i) := by unfold bt; rw [Int32.toBitVec_or, BitVec.getLsbD_or]
theorem b_and (x y : Int32) (i : Nat) : bt (x &&& y) i = (bt x i && bt y i) := by unfold bt; rw [Int32.toBitVec_and, BitVec.getLsbD_and]
theorem b_xor (x y : Int32) (i : Nat) : bt (x ^^^ y) i = (bt x i ^^ bt y i) := by unfold bt; rw [Int32.toBitVec_xor, BitVec.getLsbD_xor]
theorem b_big {x : Int32} {i : Nat} (h : 32 ≤ i) : bt x i = false := BitVec.getLsbD_of_ge _ _ h
theorem b_255 (i : Nat) : bt 255 i = decide (i < 8) := by
  rcases Nat.lt_or_ge i 32 with h | h
  · exact (by decide +kernel : ∀ i, i < 32 → bt 255 i = decide (i < 8)) i h
  · rw [b_big h, decide_eq_false (by omega)]
theorem b_65535 (i : Nat) : bt 65535 i = decide (i < 16) := by
  rcases Nat.lt_or_ge i 32 with h | h
  · exact (by decide +kernel : ∀ i, i < 32 → bt 65535 i = decide (i < 16)) i h
  · rw [b_big h, decide_eq_false (by omega)]
theorem b_m1 : ∀ i, i < 32 → bt (-1) i = true := by decide +kernel
theorem b_0 (i : Nat) : bt 0 i = false := BitVec.getLsbD_zero
theorem s_l : ∀ n, n < 32 → ((nI n &&& 31).toBitVec.smod 32).toNat = n := by decide +kernel
theorem s_u : ∀ n, n < 32 → (((nI n).toUInt32 &&& Int32.toUInt32 31).toBitVec % 32).toNat = n := by decide +kernel
theorem b_shl (n : Nat) (hn : n < 32) (x : Int32) {i : Nat} (hi : i < 32) : bt (x <<< (nI n &&& 31)) i = (decide (n ≤ i) && bt x (i - n)) := by
  unfold bt
  rw [Int32.toBitVec_shiftLeft]
  show (x.toBitVec <<< ((nI n &&& 31).toBitVec.smod 32).toNat).getLsbD i = _
  rw [s_l n hn, BitVec.getLsbD_shiftLeft]
  rcases Nat.lt_or_ge i n with h | h
  · simp [h, Nat.not_le.mpr h]
  · simp [hi, h, Nat.not_lt.mpr h]
theorem b_ushr (n : Nat) (hn : n < 32) (x : Int32) (i : Nat) : bt ((x.toUInt32 >>> ((nI n).toUInt32 &&& Int32.toUInt32 31)).toInt32) i = bt x (n + i) := by
  show (x.toUInt32 >>> ((nI n).toUInt32 &&& Int32.toUInt32 31)).toBitVec.getLsbD i = x.toUInt32.toBitVec.getLsbD (n + i)
  rw [UInt32.toBitVec_shiftRight]
  show (x.toUInt32.toBitVec >>> (((nI n).toUInt32 &&& Int32.toUInt32 31).toBitVec % 32).toNat).getLsbD i = _
  rw [s_u n hn, BitVec.getLsbD_ushiftRight]
theorem b_sshr (n : Nat) (hn : n < 32) (x : Int32) {i : Nat} (hi : i < 32) : bt (x >>> (nI n &&& 31)) i = if n + i < 32 then bt x (n + i) else bt x 31 := by
  unfold bt
  rw [Int32.toBitVec_shiftRight]
  show (x.toBitVec.sshiftRight ((nI n &&& 31).toBitVec.smod 32).toNat).getLsbD i = _
  rw [s_l n hn, BitVec.getLsbD_sshiftRight, BitVec.msb_eq_getLsbD_last]
  simp [hi]
theorem b_shl8 (x : Int32) {i : Nat} (hi : i < 32) : bt (x <<< ((8 : Int32) &&& 31)) i = (decide (8 ≤ i) && bt x (i - 8)) := b_shl 8 (by omega) x hi
theorem b_shl16 (x : Int32) {i : Nat} (hi : i < 32) : bt (x <<< ((16 : Int32) &&& 31)) i = (decide (16 ≤ i) && bt x (i - 16)) := b_shl 16 (by omega) x hi
theorem b_shl24 (x : Int32) {i : Nat} (hi : i < 32) : bt (x <<< ((24 : Int32) &&& 31)) i = (decide (24 ≤ i) && bt x (i - 24)) := b_shl 24 (by omega) x hi
theorem b_sshr8 (x : Int32) {i : Nat} (hi : i < 32) : bt (x >>> ((8 : Int32) &&& 31)) i = if 8 + i < 32 then bt x (8 + i) else bt x 31 := b_sshr 8 (by omega) x hi
/-! ===== nI under and, xor, >>>, one bit, 65535 ===== -/
theorem nx_and (a b : Nat) : nI a &&& nI b = nI (a &&& b) := by
  apply Int32.toBitVec_inj.1
  show BitVec.ofNat 32 a &&& BitVec.ofNat 32 b = BitVec.ofNat 32 (a &&& b)
  apply BitVec.eq_of_getLsbD_eq
  intro i hi
  simp [hi]
theorem nx_xor (a b : Nat) : nI a ^^^ nI b = nI (a ^^^ b) := by
  apply Int32.toBitVec_inj.1
  show BitVec.ofNat 32 a ^^^ BitVec.ofNat 32 b = BitVec.ofNat 32 (a ^^^ b)
  apply BitVec.eq_of_getLsbD_eq
  intro i hi
  simp [hi]

theorem bt_nI {n : Nat} {i : Nat} (hi : i < 32) : bt (nI n) i = n.testBit i := by
  show (BitVec.ofNat 32 n).getLsbD i = _
  rw [BitVec.getLsbD_ofNat]
  simp [hi]
theorem bt_one {i : Nat} (hi : i < 32) : bt (nI 1) i = decide (i = 0) := by
  rw [bt_nI hi]
  cases i with
  | zero => rfl
  | succ i => simp [Nat.testBit_succ]
/-- one bit, by >>> -/
theorem bt_u {x : Int32} {k : Nat} (hk : k < 32) : ((x.toUInt32 >>> ((nI k).toUInt32 &&& Int32.toUInt32 31)).toInt32 &&& nI 1) = nI (bt x k).toNat := by
  apply b_ext
  intro i hi
  rw [b_and, b_ushr k hk, bt_one hi, bt_nI hi]
  cases i with
  | zero =>
    simp
    cases bt x k <;> rfl
  | succ i => cases h : bt x k <;> simp [Nat.testBit_succ]
/-- one bit, by >> -/
theorem bt_s {x : Int32} {k : Nat} (hk : k < 32) : ((x >>> (nI k &&& 31)) &&& nI 1) = nI (bt x k).toNat := by
  apply b_ext
  intro i hi
  rw [b_and, b_sshr k hk _ hi, bt_one hi, bt_nI hi]
  cases i with
  | zero =>
    simp [hk]
    cases bt x k <;> rfl
  | succ i => cases h : bt x k <;> simp [Nat.testBit_succ]
/-- 1 << k -/
theorem bt_shl1 {k i : Nat} (hk : k < 32) (hi : i < 32) : bt (nI 1 <<< (nI k &&& 31)) i = decide (i = k) := by
  rw [b_shl k hk _ hi]
  rcases Nat.lt_trichotomy i k with h | h | h
  · simp [Nat.not_le.mpr h, Nat.ne_of_lt h]
  · subst h
    rw [bt_one (by omega)]
    simp
  · rw [bt_one (by omega)]
    have h1 : ¬ i - k = 0 := by omega
    have h2 : ¬ i = k := by omega
    simp [h1, h2]
/-- how many of the first n are true -/
def cnt (f : Nat → Bool) : Nat → Nat
  | 0 => 0
  | n + 1 => cnt f n + (f n).toNat
theorem cnt_le (f : Nat → Bool) : ∀ n, cnt f n ≤ n
  | 0 => Nat.le_refl 0
  | n + 1 => by
    have h1 := cnt_le f n
    have h2 : (f n).toNat ≤ 1 := by cases f n <;> decide
    show cnt f n + (f n).toNat ≤ n + 1
    omega
theorem cnt_congr {f g : Nat → Bool} : ∀ {n : Nat}, (∀ i, i < n → f i = g i) → cnt f n = cnt g n
  | 0, _ => rfl
  | n + 1, h => by
    show cnt f n + (f n).toNat = cnt g n + (g n).toNat
    rw [cnt_congr (n := n) (fun i hi => h i (by omega)), h n (by omega)]
theorem cnt_add (f : Nat → Bool) (m : Nat) : ∀ n, cnt f (m + n) = cnt f m + cnt (fun i => f (m + i)) n
  | 0 => rfl
  | n + 1 => by
    show cnt f (m + n) + (f (m + n)).toNat = cnt f m + (cnt (fun i => f (m + i)) n + (f (m + n)).toNat)
    rw [cnt_add f m n]
    omega
theorem and_split {k a b : Nat} (q r : Nat) (ha : a < 2 ^ k) (hb : b < 2 ^ k) : (2 ^ k * q + a) &&& (2 ^ k * r + b) = 2 ^ k * (q &&& r) + (a &&& b) := by
  apply Nat.eq_of_testBit_eq
  intro i
  have hab : a &&& b < 2 ^ k := Nat.lt_of_le_of_lt Nat.and_le_left ha
  rw [Nat.testBit_and, Nat.testBit_two_pow_mul_add _ ha, Nat.testBit_two_pow_mul_add _ hb, Nat.testBit_two_pow_mul_add _ hab]
  split <;> rw [Nat.testBit_and]
def p1 (b : Nat) : Nat := b - (b / 2 &&& 85)
def p2 (b : Nat) : Nat := (b &&& 51) + (b / 4 &&& 51)
def p3 (b : Nat) : Nat := (b + b / 16) &&& 15
theorem p_all : ∀ b, b < 256 → (b / 2 &&& 85) ≤ b ∧ p1 b < 256 ∧ p2 (p1 b) ≤ 68 ∧ p2 (p1 b) % 16 ≤ 4 ∧ p3 (p2 (p1 b)) = cnt (fun i => b.testBit i) 8 := by decide +kernel
theorem p_half : ∀ c, c < 2 → ∀ b, b < 256 → ((128 * c + b / 2) &&& 85) = (b / 2 &&& 85) := by decide +kernel
theorem p_quart : ∀ c, c < 4 → ∀ b, b < 256 → ((64 * c + b / 4) &&& 51) = (b / 4 &&& 51) := by decide +kernel
theorem p_nib : ∀ c, c < 5 → ∀ b, b < 69 → ((16 * c + (b + b / 16)) &&& 15) = ((b + b / 16) &&& 15) := by decide +kernel
theorem p_s1 (q b M : Nat) (hb : b < 256) : ((256 * q + b) / 2) &&& (256 * M + 85) = 256 * ((q / 2) &&& M) + (b / 2 &&& 85) := by
  have e : (256 * q + b) / 2 = 2 ^ 8 * (q / 2) + (128 * (q % 2) + b / 2) := by omega
  have h := and_split (k := 8) (a := 128 * (q % 2) + b / 2) (b := 85) (q / 2) M (by omega) (by omega)
  rw [e]
  rw [p_half _ (by omega) b hb] at h
  exact h
theorem p_s2 (q b M : Nat) (hb : b < 256) : ((256 * q + b) / 4) &&& (256 * M + 51) = 256 * ((q / 4) &&& M) + (b / 4 &&& 51) := by
  have e : (256 * q + b) / 4 = 2 ^ 8 * (q / 4) + (64 * (q % 4) + b / 4) := by omega
  have h := and_split (k := 8) (a := 64 * (q % 4) + b / 4) (b := 51) (q / 4) M (by omega) (by omega)
  rw [e]
  rw [p_quart _ (by omega) b hb] at h
  exact h
theorem p_s3 (q b M : Nat) (hb : b < 256) : (256 * q + b) &&& (256 * M + 51) = 256 * (q &&& M) + (b &&& 51) := and_split (k := 8) q M (by omega) (by omega)
theorem p_4a (a b c d : Nat) (ha : a < 256) (hb : b < 256) (hc : c < 256) (hd : d < 256) : ((256 * (256 * (256 * d + c) + b) + a) / 2) &&& 1431655765 = 256 * (256 * (256 * (d / 2 &&& 85) + (c / 2 &&& 85)) + (b / 2 &&& 85)) + (a / 2 &&& 85) := by
  have e : 1431655765 = 256 * 5592405 + 85 := rfl
  have e2 : 5592405 = 256 * 21845 + 85 := rfl
  have e3 : 21845 = 256 * 85 + 85 := rfl
  rw [e, p_s1 _ _ _ ha, e2, p_s1 _ _ _ hb, e3, p_s1 _ _ _ hc]
theorem p_4b (a b c d : Nat) (ha : a < 256) (hb : b < 256) (hc : c < 256) (hd : d < 256) : ((256 * (256 * (256 * d + c) + b) + a) / 4) &&& 858993459 = 256 * (256 * (256 * (d / 4 &&& 51) + (c / 4 &&& 51)) + (b / 4 &&& 51)) + (a / 4 &&& 51) := by
  have e : 858993459 = 256 * 3355443 + 51 := rfl
  have e2 : 3355443 = 256 * 13107 + 51 := rfl
  have e3 : 13107 = 256 * 51 + 51 := rfl
  rw [e, p_s2 _ _ _ ha, e2, p_s2 _ _ _ hb, e3, p_s2 _ _ _ hc]
theorem p_4c (a b c d : Nat) (ha : a < 256) (hb : b < 256) (hc : c < 256) (hd : d < 256) : (256 * (256 * (256 * d + c) + b) + a) &&& 858993459 = 256 * (256 * (256 * (d &&& 51) + (c &&& 51)) + (b &&& 51)) + (a &&& 51) := by
  have e : 858993459 = 256 * 3355443 + 51 := rfl
  have e2 : 3355443 = 256 * 13107 + 51 := rfl
  have e3 : 13107 = 256 * 51 + 51 := rfl
  rw [e, p_s3 _ _ _ ha, e2, p_s3 _ _ _ hb, e3, p_s3 _ _ _ hc]
theorem p_4d (a b c d : Nat) (ha : a ≤ 68) (hb : b ≤ 68) (hc : c ≤ 68) (hd : d ≤ 68) (ha4 : a % 16 ≤ 4) (hb4 : b % 16 ≤ 4) (hc4 : c % 16 ≤ 4) (hd4 : d % 16 ≤ 4) : ((256 * (256 * (256 * d + c) + b) + a) + (256 * (256 * (256 * d + c) + b) + a) / 16) &&& 252645135 = 256 * (256 * (256 * p3 d + p3 c) + p3 b) + p3 a := by
  have e : (256 * (256 * (256 * d + c) + b) + a) + (256 * (256 * (256 * d + c) + b) + a) / 16 = 2 ^ 8 * (2 ^ 8 * (2 ^ 8 * (d + d / 16) + (16 * (d % 16) + (c + c / 16))) + (16 * (c % 16) + (b + b / 16))) + (16 * (b % 16) + (a + a / 16)) := by omega
  have e1 : 252645135 = 2 ^ 8 * (2 ^ 8 * (2 ^ 8 * 15 + 15) + 15) + 15 := rfl
  rw [e, e1, and_split _ _ (by omega) (by omega), and_split _ _ (by omega) (by omega), and_split _ _ (by omega) (by omega), p_nib _ (by omega) a (by omega), p_nib _ (by omega) b (by omega), p_nib _ (by omega) c (by omega)]
  rfl
/-- the number of bits, as the JDK reckons it -/
theorem p_count {n : Nat} (hn : n < 2 ^ 32) : ∃ A B C, n / 2 &&& 1431655765 ≤ n ∧ A = n - (n / 2 &&& 1431655765) ∧ B = (A &&& 858993459) + (A / 4 &&& 858993459) ∧ C = (B + B / 16) &&& 252645135 ∧ A < 2 ^ 32 ∧ B < 2 ^ 31 ∧ C < 2 ^ 31 ∧ ((C + C / 256) + (C + C / 256) / 65536) % 64 = cnt (fun i => n.testBit i) 32 := by
  obtain ⟨a, b, c, d, ha, hb, hc, hd, rfl⟩ : ∃ a b c d, a < 256 ∧ b < 256 ∧ c < 256 ∧ d < 256 ∧ n = 256 * (256 * (256 * d + c) + b) + a := ⟨n % 256, n / 256 % 256, n / 65536 % 256, n / 16777216, by omega, by omega, by omega, by omega, by omega⟩
  obtain ⟨a1, a2, a3, a4, a5⟩ := p_all a ha
  obtain ⟨b1, b2, b3, b4, b5⟩ := p_all b hb
  obtain ⟨c1, c2, c3, c4, c5⟩ := p_all c hc
  obtain ⟨d1, d2, d3, d4, d5⟩ := p_all d hd
  have hA : 256 * (256 * (256 * d + c) + b) + a - ((256 * (256 * (256 * d + c) + b) + a) / 2 &&& 1431655765) = 256 * (256 * (256 * p1 d + p1 c) + p1 b) + p1 a := by
    rw [p_4a a b c d ha hb hc hd]
    unfold p1
    omega
  have hB : ((256 * (256 * (256 * p1 d + p1 c) + p1 b) + p1 a) &&& 858993459) + ((256 * (256 * (256 * p1 d + p1 c) + p1 b) + p1 a) / 4 &&& 858993459) = 256 * (256 * (256 * p2 (p1 d) + p2 (p1 c)) + p2 (p1 b)) + p2 (p1 a) := by
    rw [p_4b _ _ _ _ a2 b2 c2 d2, p_4c _ _ _ _ a2 b2 c2 d2]
    unfold p2
    omega
  have hC := p_4d (p2 (p1 a)) (p2 (p1 b)) (p2 (p1 c)) (p2 (p1 d)) a3 b3 c3 d3 a4 b4 c4 d4
  have k : ∀ m, cnt (fun i => (m : Nat).testBit i) 8 ≤ 8 := fun m => cnt_le _ 8
  refine ⟨_, _, _, ?_, hA.symm, hB.symm, hC.symm, by omega, by omega, ?_, ?_⟩
  · rw [p_4a a b c d ha hb hc hd]
    omega
  · rw [a5, b5, c5, d5]
    have := k a
    have := k b
    have := k c
    have := k d
    omega
  · rw [a5, b5, c5, d5]
    have ka := k a
    have kb := k b
    have kc := k c
    have kd := k d
    have e : cnt (fun i => (256 * (256 * (256 * d + c) + b) + a).testBit i) 32 = cnt (fun i => a.testBit i) 8 + cnt (fun i => b.testBit i) 8 + cnt (fun i => c.testBit i) 8 + cnt (fun i => d.testBit i) 8 := by
      have t : ∀ q r : Nat, r < 256 → ∀ i, (256 * q + r).testBit i = if i < 8 then r.testBit i else q.testBit (i - 8) := fun q r hr i => Nat.testBit_two_pow_mul_add (i := 8) q (by omega) i
      rw [show (32 : Nat) = 8 + (8 + (8 + 8)) from rfl, cnt_add, cnt_add, cnt_add]
      rw [cnt_congr (n := 8) (f := fun i => (256 * (256 * (256 * d + c) + b) + a).testBit i) (g := fun i => a.testBit i) (fun i hi => by rw [t _ _ ha, if_pos hi])]
      rw [cnt_congr (n := 8) (f := fun i => (256 * (256 * (256 * d + c) + b) + a).testBit (8 + i)) (g := fun i => b.testBit i) (fun i hi => by rw [t _ _ ha, if_neg (by omega), t _ _ hb, if_pos (by omega)]; congr 1; omega)]
      rw [cnt_congr (n := 8) (f := fun i => (256 * (256 * (256 * d + c) + b) + a).testBit (8 + (8 + i))) (g := fun i => c.testBit i) (fun i hi => by rw [t _ _ ha, if_neg (by omega), t _ _ hb, if_neg (by omega), t _ _ hc, if_pos (by omega)]; congr 1; omega)]
      rw [cnt_congr (n := 8) (f := fun i => (256 * (256 * (256 * d + c) + b) + a).testBit (8 + (8 + (8 + i)))) (g := fun i => d.testBit i) (fun i hi => by rw [t _ _ ha, if_neg (by omega), t _ _ hb, if_neg (by omega), t _ _ hc, if_neg (by omega)]; congr 1; omega)]
      omega
    rw [e]
    generalize cnt (fun i => a.testBit i) 8 = va at ka ⊢
    generalize cnt (fun i => b.testBit i) 8 = vb at kb ⊢
    generalize cnt (fun i => c.testBit i) 8 = vc at kc ⊢
    generalize cnt (fun i => d.testBit i) 8 = vd at kd ⊢
    have q1 : (256 * (256 * (256 * vd + vc) + vb) + va) / 256 = 256 * (256 * vd + vc) + vb := by omega
    rw [q1]
    have q2 : (256 * (256 * (256 * vd + vc) + vb) + va + (256 * (256 * vd + vc) + vb)) / 65536 = 256 * vd + (vd + vc) := by omega
    rw [q2]
    omega
theorem p_and {a b : Nat} : nI a &&& nI b = nI (a &&& b) := nx_and a b
theorem bt_tb (n : Nat) : ∀ i, i < 32 → bt (nI n) i = n.testBit i := fun i hi => bt_nI hi
theorem m_bitCount (x : Int32) {σ : qw_M} : qw_Mt qw_tw wC my_J6_bitCount [.int x] σ (fun r σ' => σ' = σ ∧ r = some (.int (nI (cnt (bt x) 32)))) := by
  obtain ⟨n, hn, rfl⟩ : ∃ n, n < 2 ^ 32 ∧ x = nI n := ⟨x.toBitVec.toNat, x.toBitVec.isLt, by apply Int32.toBitVec_inj.mp; show x.toBitVec = BitVec.ofNat 32 x.toBitVec.toNat; simp⟩
  obtain ⟨A, B, C, h1, h2, h3, h4, h5, h6, h7, h8⟩ := p_count hn
  refine mt_J6_bitCount rfl (ev_J6_bitCount [] 100 ?_)
  refine ⟨rfl, ?_⟩
  have k1 : nI n - (((nI n).toUInt32 >>> ((nI 1).toUInt32 &&& Int32.toUInt32 31)).toInt32 &&& (1431655765 : Int32)) = nI A := by
    rw [pk_ushrN hn (nI 1) 1 (s_u 1 (by omega)), show (1431655765 : Int32) = nI 1431655765 from rfl, p_and, pk_sub (by simpa using h1), h2]
  have k2 : (nI A &&& (858993459 : Int32)) + (((nI A).toUInt32 >>> ((nI 2).toUInt32 &&& Int32.toUInt32 31)).toInt32 &&& (858993459 : Int32)) = nI B := by
    rw [pk_ushrN h5 (nI 2) 2 (s_u 2 (by omega)), show (858993459 : Int32) = nI 858993459 from rfl, p_and, p_and, nI_add, h3]
  have k3 : (nI B + ((nI B).toUInt32 >>> ((nI 4).toUInt32 &&& Int32.toUInt32 31)).toInt32) &&& (252645135 : Int32) = nI C := by
    rw [pk_ushrN (by omega) (nI 4) 4 (s_u 4 (by omega)), show (252645135 : Int32) = nI 252645135 from rfl, nI_add, p_and, h4]
  have k4 : nI C + ((nI C).toUInt32 >>> ((nI 8).toUInt32 &&& Int32.toUInt32 31)).toInt32 = nI (C + C / 256) := by
    rw [pk_ushrN (by omega) (nI 8) 8 (s_u 8 (by omega)), nI_add]
  have k5 : nI (C + C / 256) + ((nI (C + C / 256)).toUInt32 >>> ((nI 16).toUInt32 &&& Int32.toUInt32 31)).toInt32 = nI (C + C / 256 + (C + C / 256) / 65536) := by
    rw [pk_ushrN (by omega) (nI 16) 16 (s_u 16 (by omega)), nI_add]
  show some (Value.int _) = _
  congr 2
  rw [cnt_congr (bt_tb n), ← h8, ← pk_andN (n := C + C / 256 + (C + C / 256) / 65536) (by omega) (m := nI 63) 6 (by decide), ← k5, ← k4, ← k3, ← k2, ← k1]
theorem m_max (x y : Int32) {σ : qw_M} : qw_Mt qw_tw wC my_J9_max [.int x, .int y] σ (fun r σ' => σ' = σ ∧ r = some (.int (if x < y then y else x))) := by
  refine mt_J9_max rfl (ev_J9_max [] 100 ?_)
  refine vb (fun a => ?_) (fun a => ?_)
  · refine ⟨rfl, ?_⟩
    rw [if_pos a]
  · refine ⟨rfl, ?_⟩
    rw [if_neg a]
theorem m_min (x y : Int32) {σ : qw_M} : qw_Mt qw_tw wC my_J9_min [.int x, .int y] σ (fun r σ' => σ' = σ ∧ r = some (.int (if y < x then y else x))) := by
  refine mt_J9_min rfl (ev_J9_min [] 100 ?_)
  refine vb (fun a => ?_) (fun a => ?_)
  · refine ⟨rfl, ?_⟩
    rw [if_pos a]
  · refine ⟨rfl, ?_⟩
    rw [if_neg a]
theorem bt_neg {x y : Int32} {i : Nat} (hi : i < 32) : bt (x &&& (y ^^^ Int32.ofInt (Int.negSucc 0))) i = (bt x i && !bt y i) := by
  rw [b_and, b_xor]
  have h : bt (Int32.ofInt (Int.negSucc 0)) i = true := b_m1 i hi
  rw [h]
  cases bt x i <;> cases bt y i <;> rfl
end
section
/-! Glow: three of them (18 what THE PICTURE tells, 28 the stage's, 30 the others'): G c is the light of cell c -/
def gl (σ : qw_M) (k : Nat) (G : Nat → Nat) : Prop := ∀ c, c < 32 → G c < 8 ∧ bt ((σ k).1 0) c = (G c).testBit 2 ∧ bt ((σ k).1 1) c = (G c).testBit 1 ∧ bt ((σ k).1 2) c = (G c).testBit 0
def qr_glow (k : Nat) : Prop := k = 18 ∨ k = 28 ∨ k = 30
theorem gl.fr {σ σ' : qw_M} {k : Nat} {G : Nat → Nat} {l : List Nat} (h : gl σ k G) (hf : fr l σ σ') (hk : k ∉ l) : gl σ' k G := by
  intro c hc
  rw [hf k hk]
  exact h c hc
theorem gl.congr {σ : qw_M} {k : Nat} {G G2 : Nat → Nat} (h : gl σ k G) (hg : ∀ c, c < 32 → G2 c = G c) : gl σ k G2 := by
  intro c hc
  rw [hg c hc]
  exact h c hc
/-- what a figure of a colour leaves of a light -/
def leave (q : Nat) : Nat := match q with
  | 0 => 0
  | 1 => 4
  | 2 => 2
  | _ => 1
theorem t8 : ∀ g, g < 8 → 4 * (g.testBit 2).toNat + 2 * (g.testBit 1).toNat + (g.testBit 0).toNat = g := by decide
theorem m_fill {k : Nat} (hk : qr_glow k) (x : Int32) {σ : qw_M} : qw_Mt qw_tw wC my_X2_fill [.ref k, .int x] σ (fun _ σ' => fr [k] σ σ' ∧ (σ' k).1 0 = x ∧ (σ' k).1 1 = x ∧ (σ' k).1 2 = x) := by
  rcases hk with rfl | rfl | rfl
  all_goals
    refine mt_X2_fill rfl (ev_X2_fill [] 100 ?_)
    refine ⟨((fr.pi (List.mem_cons_self)).tr (fr.pi (List.mem_cons_self))).tr (fr.pi (List.mem_cons_self)), ?_, ?_, ?_⟩ <;> simp [pi_at]
theorem m_fill0 {k : Nat} (hk : qr_glow k) {σ : qw_M} : qw_Mt qw_tw wC my_X2_fill [.ref k, .int (nI 0)] σ (fun _ σ' => fr [k] σ σ' ∧ gl σ' k (fun _ => 0)) :=
  mt_mono (m_fill hk _) (fun r σ' ⟨h1, h2, h3, h4⟩ => ⟨h1, fun c hc => by
    have h0 : ∀ i, i < 32 → bt (nI 0) i = false := by decide +kernel
    rw [h2, h3, h4, h0 c hc]
    exact (by decide : (0 : Nat) < 8 ∧ false = (0 : Nat).testBit 2 ∧ false = (0 : Nat).testBit 1 ∧ false = (0 : Nat).testBit 0)⟩)
theorem m_fill7 {k : Nat} (hk : qr_glow k) {σ : qw_M} : qw_Mt qw_tw wC my_X2_fill [.ref k, .int (Int32.ofInt (Int.negSucc 0))] σ (fun _ σ' => fr [k] σ σ' ∧ gl σ' k (fun _ => 7)) :=
  mt_mono (m_fill hk _) (fun r σ' ⟨h1, h2, h3, h4⟩ => ⟨h1, fun c hc => by
    have h0 : ∀ i, i < 32 → bt (Int32.ofInt (Int.negSucc 0)) i = true := by decide +kernel
    rw [h2, h3, h4, h0 c hc]
    exact (by decide : (7 : Nat) < 8 ∧ true = (7 : Nat).testBit 2 ∧ true = (7 : Nat).testBit 1 ∧ true = (7 : Nat).testBit 0)⟩)
theorem m_become {k q : Nat} (hk : (k = 30 ∧ q = 28) ∨ (k = 28 ∧ q = 30)) {σ : qw_M} {G : Nat → Nat} (hg : gl σ q G) : qw_Mt qw_tw wC my_X2_become [.ref k, .ref q] σ (fun _ σ' => fr [k] σ σ' ∧ gl σ' k G) := by
  rcases hk with ⟨rfl, rfl⟩ | ⟨rfl, rfl⟩
  all_goals
    refine mt_X2_become rfl (ev_X2_become [] 100 ?_)
    refine ⟨((fr.pi (List.mem_cons_self)).tr (fr.pi (List.mem_cons_self))).tr (fr.pi (List.mem_cons_self)), fun c hc => ?_⟩
    obtain ⟨h0, h1, h2, h3⟩ := hg c hc
    refine ⟨h0, ?_, ?_, ?_⟩
    · rw [← h1]
      simp [pi_at, pi_off]
    · rw [← h2]
      simp [pi_at, pi_off]
    · rw [← h3]
      simp [pi_at, pi_off]
theorem m_lightOf {k : Nat} (hk : qr_glow k) {σ : qw_M} {G : Nat → Nat} (hg : gl σ k G) {c : Nat} (hc : c < 32) : qw_Mt qw_tw wC my_X2_lightOf [.ref k, .int (nI c)] σ (fun r σ' => σ' = σ ∧ r = some (.int (nI (G c)))) := by
  obtain ⟨h0, h1, h2, h3⟩ := hg c hc
  rcases hk with rfl | rfl | rfl
  all_goals
    refine mt_X2_lightOf rfl (ev_X2_lightOf [] 100 ?_)
    refine ⟨rfl, ?_⟩
    show some (Value.int _) = _
    congr 2
    rw [bt_u hc, bt_u hc, bt_u hc, h1, h2, h3]
    revert h0
    generalize G c = g
    revert g
    decide +kernel
theorem m_dim {k : Nat} (hk : qr_glow k) {σ : qw_M} {G : Nat → Nat} (hg : gl σ k G) {m : Nat → Bool} {x : Int32} (hx : ∀ c, c < 32 → bt x c = m c) {q : Nat} (hq : q < 4) : qw_Mt qw_tw wC my_X2_dim [.ref k, .int x, .int (nI q)] σ (fun _ σ' => fr [k] σ σ' ∧ gl σ' k (fun c => if m c then G c &&& leave q else G c)) := by
  have key : ∀ g, g < 8 → ∀ b : Bool, ((g.testBit 2 && !b) = (if b then g &&& leave 0 else g).testBit 2 ∧ (g.testBit 1 && !b) = (if b then g &&& leave 0 else g).testBit 1 ∧ (g.testBit 0 && !b) = (if b then g &&& leave 0 else g).testBit 0) ∧
      (g.testBit 2 = (if b then g &&& leave 1 else g).testBit 2 ∧ (g.testBit 1 && !b) = (if b then g &&& leave 1 else g).testBit 1 ∧ (g.testBit 0 && !b) = (if b then g &&& leave 1 else g).testBit 0) ∧
      ((g.testBit 2 && !b) = (if b then g &&& leave 2 else g).testBit 2 ∧ g.testBit 1 = (if b then g &&& leave 2 else g).testBit 1 ∧ (g.testBit 0 && !b) = (if b then g &&& leave 2 else g).testBit 0) ∧
      ((g.testBit 2 && !b) = (if b then g &&& leave 3 else g).testBit 2 ∧ (g.testBit 1 && !b) = (if b then g &&& leave 3 else g).testBit 1 ∧ g.testBit 0 = (if b then g &&& leave 3 else g).testBit 0) ∧ (∀ q, q < 4 → (if b then g &&& leave q else g) < 8) := by decide +kernel
  rcases (show q = 0 ∨ q = 1 ∨ q = 2 ∨ q = 3 by omega) with rfl | rfl | rfl | rfl
  · rcases hk with rfl | rfl | rfl
    all_goals
      refine mt_X2_dim rfl (ev_X2_dim [] 100 ?_)
      refine vf (by decide) ?_
      refine vf (by decide) ?_
      refine vf (by decide) ?_
      refine ⟨((fr.pi (List.mem_cons_self)).tr (fr.pi (List.mem_cons_self))).tr (fr.pi (List.mem_cons_self)), fun c hc => ?_⟩
      obtain ⟨h0, h1, h2, h3⟩ := hg c hc
      obtain ⟨k1, k2, k3⟩ := (key (G c) h0 (m c)).1
      refine ⟨(key (G c) h0 (m c)).2.2.2.2 0 (by omega), ?_, ?_, ?_⟩
      · rw [← k1, ← h1, ← hx c hc, ← bt_neg hc]
        simp [pi_at]
      · rw [← k2, ← h2, ← hx c hc, ← bt_neg hc]
        simp [pi_at]
      · rw [← k3, ← h3, ← hx c hc, ← bt_neg hc]
        simp [pi_at]
  · rcases hk with rfl | rfl | rfl
    all_goals
      refine mt_X2_dim rfl (ev_X2_dim [] 100 ?_)
      refine vt (by decide) ?_
      refine vf (by decide) ?_
      refine vf (by decide) ?_
      refine ⟨(fr.pi (List.mem_cons_self)).tr (fr.pi (List.mem_cons_self)), fun c hc => ?_⟩
      obtain ⟨h0, h1, h2, h3⟩ := hg c hc
      obtain ⟨k1, k2, k3⟩ := (key (G c) h0 (m c)).2.1
      refine ⟨(key (G c) h0 (m c)).2.2.2.2 1 (by omega), ?_, ?_, ?_⟩
      · rw [← k1, ← h1]
        simp [pi_at]
      · rw [← k2, ← h2, ← hx c hc, ← bt_neg hc]
        simp [pi_at]
      · rw [← k3, ← h3, ← hx c hc, ← bt_neg hc]
        simp [pi_at]
  · rcases hk with rfl | rfl | rfl
    all_goals
      refine mt_X2_dim rfl (ev_X2_dim [] 100 ?_)
      refine vf (by decide) ?_
      refine vt (by decide) ?_
      refine vf (by decide) ?_
      refine ⟨(fr.pi (List.mem_cons_self)).tr (fr.pi (List.mem_cons_self)), fun c hc => ?_⟩
      obtain ⟨h0, h1, h2, h3⟩ := hg c hc
      obtain ⟨k1, k2, k3⟩ := (key (G c) h0 (m c)).2.2.1
      refine ⟨(key (G c) h0 (m c)).2.2.2.2 2 (by omega), ?_, ?_, ?_⟩
      · rw [← k1, ← h1, ← hx c hc, ← bt_neg hc]
        simp [pi_at]
      · rw [← k2, ← h2]
        simp [pi_at]
      · rw [← k3, ← h3, ← hx c hc, ← bt_neg hc]
        simp [pi_at]
  · rcases hk with rfl | rfl | rfl
    all_goals
      refine mt_X2_dim rfl (ev_X2_dim [] 100 ?_)
      refine vf (by decide) ?_
      refine vf (by decide) ?_
      refine vt (by decide) ?_
      refine ⟨(fr.pi (List.mem_cons_self)).tr (fr.pi (List.mem_cons_self)), fun c hc => ?_⟩
      obtain ⟨h0, h1, h2, h3⟩ := hg c hc
      obtain ⟨k1, k2, k3⟩ := (key (G c) h0 (m c)).2.2.2.1
      refine ⟨(key (G c) h0 (m c)).2.2.2.2 3 (by omega), ?_, ?_, ?_⟩
      · rw [← k1, ← h1, ← hx c hc, ← bt_neg hc]
        simp [pi_at]
      · rw [← k2, ← h2, ← hx c hc, ← bt_neg hc]
        simp [pi_at]
      · rw [← k3, ← h3]
        simp [pi_at]
theorem m_dark {k : Nat} (hk : qr_glow k) {σ : qw_M} {G : Nat → Nat} (hg : gl σ k G) : qw_Mt qw_tw wC my_X2_dark [.ref k] σ (fun r σ' => σ' = σ ∧ r = some (.int (nI (cnt (fun c => G c == 0) 32)))) := by
  have key : ∀ f : Nat → Bool, ∀ n, cnt f n + cnt (fun c => !f c) n = n := by
    intro f n
    induction n with
    | zero => rfl
    | succ n ih =>
      show cnt f n + (f n).toNat + (cnt (fun c => !f c) n + (!f n).toNat) = n + 1
      cases f n <;> simp <;> omega
  have e : cnt (bt ((σ k).1 0 ||| (σ k).1 1 ||| (σ k).1 2)) 32 = cnt (fun c => !(G c == 0)) 32 := cnt_congr (fun c hc => by
    obtain ⟨h0, h1, h2, h3⟩ := hg c hc
    rw [b_or, b_or, h1, h2, h3]
    revert h0
    generalize G c = g
    revert g
    decide)
  rcases hk with rfl | rfl | rfl
  all_goals
    refine mt_X2_dark rfl (ev_X2_dark [] 100 ?_)
    refine ⟨trivial, _, m_bitCount _, fun x σ' ⟨h1, h2⟩ => ?_⟩
    cases h2
    subst h1
    refine ⟨rfl, ?_⟩
    show some (Value.int _) = _
    have := key (fun c => G c == 0) 32
    rw [e, pk_sub (by have := cnt_le (fun c => !(G c == 0)) 32; omega)]
    rw [show 32 - cnt (fun c => !(G c == 0)) 32 = cnt (fun c => G c == 0) 32 by omega]
theorem m_set {σ : qw_M} {c v : Nat} (hc : c < 32) (hv : v < 8) : qw_Mt qw_tw wC my_X2_set [.ref 18, .int (nI c), .int (nI v)] σ (fun _ σ' => fr [18] σ σ' ∧ ∀ i, i < 32 →
    bt ((σ' 18).1 0) i = (bt ((σ 18).1 0) i || (decide (i = c) && v.testBit 2)) ∧ bt ((σ' 18).1 1) i = (bt ((σ 18).1 1) i || (decide (i = c) && v.testBit 1)) ∧ bt ((σ' 18).1 2) i = (bt ((σ 18).1 2) i || (decide (i = c) && v.testBit 0))) := by
  have key : ∀ b : Bool, ∀ i, i < 32 → bt (nI b.toNat <<< (nI c &&& 31)) i = (decide (i = c) && b) := by
    intro b i hi
    cases b with
    | false =>
      rw [b_shl c hc _ hi]
      show (decide (c ≤ i) && bt (nI 0) (i - c)) = _
      have : bt (nI 0) (i - c) = false := b_0 _
      rw [this]
      simp
    | true =>
      rw [show nI (true.toNat) = nI 1 from rfl, bt_shl1 hc hi]
      simp
  have e2 : (nI v >>> (nI 2 &&& 31)) &&& nI 1 = nI (v.testBit 2).toNat := by rw [bt_s (by omega), bt_nI (by omega)]
  have e1 : (nI v >>> (nI 1 &&& 31)) &&& nI 1 = nI (v.testBit 1).toNat := by rw [bt_s (by omega), bt_nI (by omega)]
  have e0 : nI v &&& nI 1 = nI (v.testBit 0).toNat := (by decide +kernel : ∀ v, v < 8 → nI v &&& nI 1 = nI (v.testBit 0).toNat) v hv
  refine mt_X2_set rfl (ev_X2_set [] 100 ?_)
  refine ⟨((fr.pi (List.mem_cons_self)).tr (fr.pi (List.mem_cons_self))).tr (fr.pi (List.mem_cons_self)), fun i hi => ⟨?_, ?_, ?_⟩⟩
  · rw [← key _ i hi, ← b_or, ← e2]
    simp [pi_at]
  · rw [← key _ i hi, ← b_or, ← e1]
    simp [pi_at]
  · rw [← key _ i hi, ← b_or, ← e0]
    simp [pi_at]
end
section
/-! Troupe.has and Stage: where FIGURES are, which CELLS they COVER, how these are lit.
T: how many figures, their depths, places, colours, marks, cards (bits) as told -/
abbrev TT : Type := Nat × (Nat → Nat) × (Nat → Nat) × (Nat → Nat) × (Nat → Nat) × (Nat → Nat)
abbrev tF (T : TT) : Nat := T.1
abbrev tD (T : TT) : Nat → Nat := T.2.1
abbrev tP (T : TT) : Nat → Nat := T.2.2.1
abbrev tC (T : TT) : Nat → Nat := T.2.2.2.1
abbrev tM (T : TT) : Nat → Nat := T.2.2.2.2.1
abbrev tK (T : TT) : Nat → Nat := T.2.2.2.2.2
/-- what a told figure may be -/
def okT (T : TT) : Prop := tF T ≤ 8 ∧ ∀ f, f < tF T → 1 ≤ tD T f ∧ tD T f ≤ 8 ∧ tP T f < 32 ∧ tC T f < 4 ∧ 1 ≤ tM T f ∧ tM T f ≤ 6 ∧ tK T f < 2 ^ tM T f
def tr (σ : qw_M) (T : TT) : Prop := okT T ∧ (σ 8).1 5 = nI (tF T) ∧ ∀ f, f < tF T → (σ 9).1 f = nI (tD T f) ∧ (σ 10).1 f = nI (tP T f) ∧ (σ 11).1 f = nI (tC T f) ∧ (σ 12).1 f = nI (tM T f) ∧ (σ 13).1 f = nI (tK T f)
theorem tr.fr {σ σ' : qw_M} {T : TT} {l : List Nat} (h : tr σ T) (hf : fr l σ σ') (hl : ∀ k, 8 ≤ k → k ≤ 13 → k ∉ l) : tr σ' T := by
  obtain ⟨h1, h2, h3⟩ := h
  refine ⟨h1, by rw [hf 8 (hl 8 (by omega) (by omega))]; exact h2, fun f hk => ?_⟩
  rw [hf 9 (hl 9 (by omega) (by omega)), hf 10 (hl 10 (by omega) (by omega)), hf 11 (hl 11 (by omega) (by omega)), hf 12 (hl 12 (by omega) (by omega)), hf 13 (hl 13 (by omega) (by omega))]
  exact h3 f hk
/-- the stage: depths, places, colours of the figures as they are now -/
def sg (σ : qw_M) (F : Nat) (d p q : Nat → Nat) : Prop := ∀ f, f < F → 1 ≤ d f ∧ d f ≤ 8 ∧ p f < 32 ∧ q f < 4 ∧ (σ 23).1 f = nI (d f) ∧ (σ 24).1 f = nI (p f) ∧ (σ 25).1 f = nI (q f)
def sl (σ : qw_M) (L : Nat) : Prop := L < 32 ∧ (σ 21).1 8 = nI L
theorem sg.fr {σ σ' : qw_M} {F : Nat} {d p q : Nat → Nat} {l : List Nat} (h : sg σ F d p q) (hf : fr l σ σ') (hl : ∀ k, 23 ≤ k → k ≤ 25 → k ∉ l) : sg σ' F d p q := by
  intro f hk
  rw [hf 23 (hl 23 (by omega) (by omega)), hf 24 (hl 24 (by omega) (by omega)), hf 25 (hl 25 (by omega) (by omega))]
  exact h f hk
theorem sl.fr {σ σ' : qw_M} {L : Nat} {l : List Nat} (h : sl σ L) (hf : fr l σ σ') (hl : 21 ∉ l) : sl σ' L := ⟨h.1, by rw [hf 21 hl]; exact h.2⟩
/-- where the ray from the lamp to a cell goes, at a depth -/
def ray (L d c : Nat) : Nat := ((8 - d) * L + 4 + d * c) / 8
theorem ray_lt {L d c : Nat} (hL : L < 32) (hd : d ≤ 8) (hc : c < 32) : ray L d c < 32 := by
  unfold ray
  have h1 : (8 - d) * L ≤ (8 - d) * 31 := Nat.mul_le_mul_left _ (by omega)
  have h2 : d * c ≤ d * 31 := Nat.mul_le_mul_left _ (by omega)
  have h3 : (8 - d) * 31 + d * 31 = 248 := by rw [← Nat.add_mul, Nat.sub_add_cancel hd]
  omega
def ridx (L d p : Nat) : Nat := (L * 8 + d - 1) * 32 + p
def ry (σ : qw_M) : Prop := ∀ L d p c, L < 32 → 1 ≤ d → d ≤ 8 → p < 32 → c < 32 → bt ((σ 22).1 (ridx L d p)) c = decide (ray L d c = p)
theorem ry.fr {σ σ' : qw_M} {l : List Nat} (h : ry σ) (hf : fr l σ σ') (hl : 22 ∉ l) : ry σ' := by
  unfold ry
  rw [hf 22 hl]
  exact h
/-- whether a figure at a depth and a place covers a cell -/
def over (L d p K c : Nat) : Bool := decide (p ≤ ray L d c) && K.testBit (ray L d c - p)
/-- what is kept of covers -/
def ca (σ : qw_M) (T : TT) : Prop := ∀ f, f < 8 → (σ 26).1 f = Int32.ofInt (Int.negSucc 0) ∨ ∃ L d p, f < tF T ∧ L < 32 ∧ 1 ≤ d ∧ d ≤ 8 ∧ p < 32 ∧ (σ 26).1 f = nI (ridx L d p) ∧ ∀ c, c < 32 → bt ((σ 27).1 f) c = over L d p (tK T f) c
theorem ca.fr {σ σ' : qw_M} {T : TT} {l : List Nat} (h : ca σ T) (hf : fr l σ σ') (hl : 26 ∉ l ∧ 27 ∉ l) : ca σ' T := by
  unfold ca
  rw [hf 26 hl.1, hf 27 hl.2]
  exact h
theorem ridx_lt {L d p : Nat} (hL : L < 32) (h1 : 1 ≤ d) (hd : d ≤ 8) (hp : p < 32) : ridx L d p < 8192 := by unfold ridx; omega
theorem ridx_inj {L d p L2 d2 p2 : Nat} (h1 : 1 ≤ d) (hd : d ≤ 8) (hp : p < 32) (h12 : 1 ≤ d2) (hd2 : d2 ≤ 8) (hp2 : p2 < 32) (h : ridx L d p = ridx L2 d2 p2) : L = L2 ∧ d = d2 ∧ p = p2 := by
  unfold ridx at h
  omega
theorem nI_i {a b : Nat} (ha : a < 2 ^ 31) (hb : b < 2 ^ 31) (h : nI a = nI b) : a = b := (nI_eq ha hb).mp h
theorem nI_m1 {a : Nat} (ha : a < 2 ^ 31) : nI a ≠ Int32.ofInt (Int.negSucc 0) := fun h => by
  have h1 := nI_pos (n := a) ha
  rw [h] at h1
  exact h1 (by decide)
theorem m_has {T : TT} {σ : qw_M} (hT : tr σ T) (i : Int32) : qw_Mt qw_tw wC my_X9_has [.ref 8, .int i] σ (fun r σ' => σ' = σ ∧ ((∃ f, f < tF T ∧ i = nI f ∧ r = some (.int (nI 1))) ∨ ((∀ f, f < tF T → i ≠ nI f) ∧ r = some (.int (nI 0))))) := by
  obtain ⟨⟨hF, -⟩, hn, -⟩ := hT
  refine mt_X9_has rfl (ev_X9_has [] 100 ?_)
  refine vb (fun a => ?_) (fun a => ?_)
  · exact ⟨Or.inl rfl, rfl, Or.inr ⟨fun j hj e => by subst e; exact nI_pos (by omega) a, rfl⟩⟩
  · refine vb (fun b => ?_) (fun b => ?_)
    · rw [hn] at b
      exact ⟨Or.inl rfl, rfl, Or.inr ⟨fun j hj e => by subst e; exact nI_ge hj (by omega) b, rfl⟩⟩
    · rw [hn] at b
      obtain ⟨j, hj, rfl⟩ := nI_of a
      have hjn : j < tF T := by
        rcases Nat.lt_or_ge j (tF T) with q | q
        · exact q
        · exact absurd (nI_le q hj) b
      refine vf (nnle 8 j (by omega) (by omega)) ?_
      exact ⟨Or.inr rfl, rfl, Or.inl ⟨j, hjn, rfl, rfl⟩⟩
theorem m_rayTo {L d p : Nat} (hd : 1 ≤ d) {σ : qw_M} : qw_Mt qw_tw wC my_X8_rayTo [.int (nI L), .int (nI d), .int (nI p)] σ (fun r σ' => σ' = σ ∧ r = some (.int (nI (ridx L d p)))) := by
  refine mt_X8_rayTo rfl (ev_X8_rayTo [] 100 ?_)
  refine ⟨rfl, ?_⟩
  show some (Value.int ((nI L * nI 8 + nI d - nI 1) * nI 32 + nI p)) = _
  rw [pk_mul, nI_add, pk_sub (by omega), pk_mul, nI_add]
  rfl
theorem m_forgetCovers {σ : qw_M} {T : TT} : qw_Mt qw_tw wC my_X8_forgetCovers [.ref 21] σ (fun _ σ' => fr [26] σ σ' ∧ ca σ' T) := by
  refine mt_X8_forgetCovers rfl ?_
  have loop : ∀ (n j : Nat) (x : Int32) (σ' : qw_M), j + n = 8 → x = nI j → fr [26] σ σ' → (∀ f, f < j → (σ' 26).1 f = Int32.ofInt (Int.negSucc 0)) → E_X8_forgetCovers (fun _ σ' => fr [26] σ σ' ∧ ca σ' T) 2 [(0, .ref 21), (1, .int x)] [] σ' := by
    intro n
    induction n with
    | zero =>
      intro j x σ' hj hx hf hs
      subst hx
      refine ev_X8_forgetCovers [2] 100 ?_
      refine vt (nle 8 j (by omega) (by omega)) ?_
      exact ⟨hf, fun f hf8 => Or.inl (hs f (by omega))⟩
    | succ n ih =>
      intro j x σ' hj hx hf hs
      subst hx
      refine ev_X8_forgetCovers [2] 100 ?_
      refine vf (nnle 8 j (by omega) (by omega)) ?_
      refine And.intro (nin j 8 (by omega) (by omega)) ?_
      refine ih (j + 1) _ _ (by omega) (nI_add j 1) (hf.tr (fr.pi List.mem_cons_self)) (fun f hfj => ?_)
      rw [nI_clamp (by omega)]
      by_cases e : f = j
      · subst e
        exact pi_eq
      · rw [pi_ne e]
        exact hs f (by omega)
  refine ev_X8_forgetCovers [2] 100 ?_
  exact loop 8 0 _ _ rfl rfl fr.rf (fun f h => absurd h (Nat.not_lt_zero f))
theorem m_start {σ : qw_M} {T : TT} (hT : tr σ T) {L : Nat} (hL : L < 32) : qw_Mt qw_tw wC my_X8_start [.ref 21, .int (nI L)] σ (fun _ σ' => fr [21, 23, 24, 25] σ σ' ∧ sl σ' L ∧ sg σ' (tF T) (tD T) (tP T) (tC T)) := by
  refine mt_X8_start rfl ?_
  have loop : ∀ (n j : Nat) (x : Int32) (σ' : qw_M), j + n = 8 → x = nI j → fr [21, 23, 24, 25] σ σ' → (σ' 21).1 8 = nI L → (∀ f, f < j → (σ' 23).1 f = (σ 9).1 f ∧ (σ' 24).1 f = (σ 10).1 f ∧ (σ' 25).1 f = (σ 11).1 f) → E_X8_start (fun _ σ' => fr [21, 23, 24, 25] σ σ' ∧ sl σ' L ∧ sg σ' (tF T) (tD T) (tP T) (tC T)) 7 [(0, .ref 21), (1, .int (nI L)), (2, .int x)] [] σ' := by
    intro n
    induction n with
    | zero =>
      intro j x σ' hj hx hf hl hs
      subst hx
      refine ev_X8_start [7] 100 ?_
      refine vt (nle 8 j (by omega) (by omega)) ?_
      refine ⟨hf, ⟨hL, hl⟩, fun f hF => ?_⟩
      obtain ⟨⟨h1, h2⟩, h3, h4⟩ := hT
      obtain ⟨g1, g2, g3, g4, g5, g6, g7⟩ := h2 f hF
      obtain ⟨k1, k2, k3, k4, k5⟩ := h4 f hF
      obtain ⟨s1, s2, s3⟩ := hs f (by omega)
      exact ⟨g1, g2, g3, g4, by rw [s1, k1], by rw [s2, k2], by rw [s3, k3]⟩
    | succ n ih =>
      intro j x σ' hj hx hf hl hs
      subst hx
      refine ev_X8_start [7] 100 ?_
      refine vf (nnle 8 j (by omega) (by omega)) ?_
      refine And.intro (nin j 8 (by omega) (by omega)) ?_
      refine And.intro (nin j 8 (by omega) (by omega)) ?_
      refine And.intro (nin j 8 (by omega) (by omega)) ?_
      refine And.intro (nin j 8 (by omega) (by omega)) ?_
      refine And.intro (nin j 8 (by omega) (by omega)) ?_
      refine And.intro (nin j 8 (by omega) (by omega)) ?_
      refine ih (j + 1) _ _ (by omega) (nI_add j 1) (((hf.tr (fr.pi (by simp))).tr (fr.pi (by simp))).tr (fr.pi (by simp))) ?_ (fun f hfj => ?_)
      · rw [pi_off (by decide), pi_off (by decide), pi_off (by decide)]
        exact hl
      · rw [nI_clamp (by omega)]
        have e9 := hf 9 (by decide)
        have e10 := hf 10 (by decide)
        have e11 := hf 11 (by decide)
        by_cases e : f = j
        · subst e
          simp [pi_at, pi_off, e9, e10, e11]
        · obtain ⟨s1, s2, s3⟩ := hs f (by omega)
          simp [pi_at, pi_off, e, s1, s2, s3]
  refine ev_X8_start [7] 100 ?_
  refine loop 8 0 _ _ rfl rfl (fr.pi (by simp)) pi_eq (fun f h => absurd h (Nat.not_lt_zero f))
end
section
/-! Stage: moves, covers, light -/
theorem sg.at {σ : qw_M} {F : Nat} {d p q : Nat → Nat} (h : sg σ F d p q) {f : Nat} (hf : f < F) : 1 ≤ d f ∧ d f ≤ 8 ∧ p f < 32 ∧ q f < 4 ∧ (σ 23).1 f = nI (d f) ∧ (σ 24).1 f = nI (p f) ∧ (σ 25).1 f = nI (q f) := h f hf
theorem up_eq {d : Nat → Nat} {f v : Nat} : va_up d f v f = v := by simp [va_up]
theorem up_ne {d : Nat → Nat} {f v g : Nat} (h : g ≠ f) : va_up d f v g = d g := by simp [va_up, h]
theorem up_id {d : Nat → Nat} {f : Nat} : va_up d f (d f) = d := by
  funext g
  by_cases h : g = f
  · subst h; exact up_eq
  · exact up_ne h
theorem m_put {T : TT} {σ : qw_M} (hT : tr σ T) {d p q : Nat → Nat} (hs : sg σ (tF T) d p q) {f a b : Nat} (hf : f < tF T) (ha : 1 ≤ a) (ha8 : a ≤ 8) (hb : b < 32) : qw_Mt qw_tw wC my_X8_put [.ref 21, .int (nI f), .int (nI a), .int (nI b)] σ (fun _ σ' => fr [23, 24] σ σ' ∧ sg σ' (tF T) (va_up d f a) (va_up p f b) q) := by
  have hF := hT.1.1
  refine mt_X8_put rfl (ev_X8_put [] 100 ?_)
  refine ⟨trivial, _, m_has hT _, fun x σ' _ ⟨h1, h2⟩ => ?_⟩
  subst h1
  rcases h2 with ⟨g, hg, e, h2⟩ | ⟨h2, -⟩
  · cases h2
    refine vf (by decide) ?_
    refine And.intro (nin f 8 (by omega) (by omega)) ?_
    refine And.intro (nin f 8 (by omega) (by omega)) ?_
    refine ⟨(fr.pi (by simp)).tr (fr.pi (by simp)), fun g hg => ?_⟩
    obtain ⟨s1, s2, s3, s4, s5, s6, s7⟩ := hs g hg
    rw [nI_clamp (by omega)]
    by_cases h : g = f
    · subst h
      refine ⟨by rw [up_eq]; exact ha, by rw [up_eq]; exact ha8, by rw [up_eq]; exact hb, s4, ?_, ?_, ?_⟩
      · rw [up_eq]
        simp [pi_at, pi_off]
      · rw [up_eq]
        simp [pi_at, pi_off]
      · simp [pi_at, pi_off, s7]
    · rw [up_ne h, up_ne h]
      refine ⟨s1, s2, s3, s4, ?_, ?_, ?_⟩
      · simp [pi_at, pi_off, h, s5]
      · simp [pi_at, pi_off, h, s6]
      · simp [pi_at, pi_off, s7]
  · exact absurd rfl (h2 f hf)
theorem m_paint {T : TT} {σ : qw_M} (hT : tr σ T) {d p q : Nat → Nat} (hs : sg σ (tF T) d p q) {f a : Nat} (hf : f < tF T) (ha : a < 4) : qw_Mt qw_tw wC my_X8_paint [.ref 21, .int (nI f), .int (nI a)] σ (fun _ σ' => fr [25] σ σ' ∧ sg σ' (tF T) d p (va_up q f a)) := by
  have hF := hT.1.1
  refine mt_X8_paint rfl (ev_X8_paint [] 100 ?_)
  refine ⟨trivial, _, m_has hT _, fun x σ' _ ⟨h1, h2⟩ => ?_⟩
  subst h1
  rcases h2 with ⟨g, hg, e, h2⟩ | ⟨h2, -⟩
  · cases h2
    refine vf (by decide) ?_
    refine And.intro (nin f 8 (by omega) (by omega)) ?_
    refine ⟨fr.pi (by simp), fun g hg => ?_⟩
    obtain ⟨s1, s2, s3, s4, s5, s6, s7⟩ := hs g hg
    rw [nI_clamp (by omega)]
    by_cases h : g = f
    · subst h
      refine ⟨s1, s2, s3, by rw [up_eq]; exact ha, ?_, ?_, ?_⟩
      · simp [pi_off, s5]
      · simp [pi_off, s6]
      · rw [up_eq]
        simp [pi_at]
    · rw [up_ne h]
      refine ⟨s1, s2, s3, s4, ?_, ?_, ?_⟩
      · simp [pi_off, s5]
      · simp [pi_off, s6]
      · simp [pi_at, h, s7]
  · exact absurd rfl (h2 f hf)
theorem m_depthOf {T : TT} {σ : qw_M} (hT : tr σ T) {d p q : Nat → Nat} (hs : sg σ (tF T) d p q) {f : Nat} (hf : f < tF T) : qw_Mt qw_tw wC my_X8_depthOf [.ref 21, .int (nI f)] σ (fun r σ' => σ' = σ ∧ r = some (.int (nI (d f)))) := by
  have hF := hT.1.1
  refine mt_X8_depthOf rfl (ev_X8_depthOf [] 100 ?_)
  refine ⟨trivial, _, m_has hT _, fun x σ' _ ⟨h1, h2⟩ => ?_⟩
  subst h1
  rcases h2 with ⟨g, hg, e, h2⟩ | ⟨h2, -⟩
  · cases h2
    refine vf (by decide) ?_
    refine And.intro (nin f 8 (by omega) (by omega)) ?_
    refine ⟨rfl, ?_⟩
    rw [nI_clamp (by omega), (hs f hf).2.2.2.2.1]
  · exact absurd rfl (h2 f hf)
theorem m_placeOf {T : TT} {σ : qw_M} (hT : tr σ T) {d p q : Nat → Nat} (hs : sg σ (tF T) d p q) {f : Nat} (hf : f < tF T) : qw_Mt qw_tw wC my_X8_placeOf [.ref 21, .int (nI f)] σ (fun r σ' => σ' = σ ∧ r = some (.int (nI (p f)))) := by
  have hF := hT.1.1
  refine mt_X8_placeOf rfl (ev_X8_placeOf [] 100 ?_)
  refine ⟨trivial, _, m_has hT _, fun x σ' _ ⟨h1, h2⟩ => ?_⟩
  subst h1
  rcases h2 with ⟨g, hg, e, h2⟩ | ⟨h2, -⟩
  · cases h2
    refine vf (by decide) ?_
    refine And.intro (nin f 8 (by omega) (by omega)) ?_
    refine ⟨rfl, ?_⟩
    rw [nI_clamp (by omega), (hs f hf).2.2.2.2.2.1]
  · exact absurd rfl (h2 f hf)
/-- a step of a figure: whither 0 l, 1 r, 2 f, 3 b -/
def mvD (w d : Nat) : Nat := if w = 2 then (if 1 < d then d - 1 else d) else if w = 3 then (if d < 8 then d + 1 else d) else d
def mvP (w p : Nat) : Nat := if w = 0 then p - 1 else if w = 1 then (if p < 31 then p + 1 else p) else p
theorem m_move0 {T : TT} {σ : qw_M} (hT : tr σ T) {x y : Int32} (hx : ∀ f, f < tF T → x ≠ nI f) : qw_Mt qw_tw wC my_X8_move [.ref 21, .int x, .int y] σ (fun _ σ' => σ' = σ) := by
  refine mt_X8_move rfl (ev_X8_move [] 100 ?_)
  refine ⟨trivial, _, m_has hT _, fun x σ' _ ⟨h1, h2⟩ => ?_⟩
  subst h1
  rcases h2 with ⟨g, hg, e, h2⟩ | ⟨h2, h3⟩
  · exact absurd e (hx g hg)
  · cases h3
    refine vnf (by decide) ?_
    rfl
theorem sgP {σ : qw_M} {F f v : Nat} {d p q : Nat → Nat} (hs : sg σ F d p q) (hv : v < 32) : sg (qw_pi σ 24 f (nI v)) F d (va_up p f v) q := by
  intro g hg
  obtain ⟨s1, s2, s3, s4, s5, s6, s7⟩ := hs g hg
  by_cases h : g = f
  · subst h
    rw [up_eq]
    exact ⟨s1, s2, hv, s4, by rw [pi_off (by decide)]; exact s5, pi_eq, by rw [pi_off (by decide)]; exact s7⟩
  · rw [up_ne h]
    exact ⟨s1, s2, s3, s4, by rw [pi_off (by decide)]; exact s5, by rw [pi_ne h]; exact s6, by rw [pi_off (by decide)]; exact s7⟩
theorem sgD {σ : qw_M} {F f v : Nat} {d p q : Nat → Nat} (hs : sg σ F d p q) (h1 : 1 ≤ v) (hv : v ≤ 8) : sg (qw_pi σ 23 f (nI v)) F (va_up d f v) p q := by
  intro g hg
  obtain ⟨s1, s2, s3, s4, s5, s6, s7⟩ := hs g hg
  by_cases h : g = f
  · subst h
    rw [up_eq]
    exact ⟨h1, hv, s3, s4, pi_eq, by rw [pi_off (by decide)]; exact s6, by rw [pi_off (by decide)]; exact s7⟩
  · rw [up_ne h]
    exact ⟨s1, s2, s3, s4, by rw [pi_ne h]; exact s5, by rw [pi_off (by decide)]; exact s6, by rw [pi_off (by decide)]; exact s7⟩
theorem m_move {T : TT} {σ : qw_M} (hT : tr σ T) {d p q : Nat → Nat} (hs : sg σ (tF T) d p q) {f w : Nat} (hf : f < tF T) (hw : w < 4) : qw_Mt qw_tw wC my_X8_move [.ref 21, .int (nI f), .int (nI w)] σ (fun _ σ' => fr [23, 24] σ σ' ∧ sg σ' (tF T) (va_up d f (mvD w (d f))) (va_up p f (mvP w (p f))) q) := by
  have hF := hT.1.1
  obtain ⟨s1, s2, s3, s4, s5, s6, s7⟩ := hs f hf
  have e5 : (σ 23).1 (nI f).toNatClampNeg = nI (d f) := by rw [nI_clamp (by omega)]; exact s5
  have e6 : (σ 24).1 (nI f).toNatClampNeg = nI (p f) := by rw [nI_clamp (by omega)]; exact s6
  have hin : vp_in (nI f) 8 := nin f 8 (by omega) (by omega)
  have stay : ∀ {d' p' : Nat → Nat}, d' = d → p' = p → fr [23, 24] σ σ ∧ sg σ (tF T) d' p' q := fun h1 h2 => by subst h1; subst h2; exact ⟨fr.rf, hs⟩
  refine mt_X8_move rfl (ev_X8_move [] 100 ?_)
  refine ⟨trivial, _, m_has hT _, fun x σ' _ ⟨h1, h2⟩ => ?_⟩
  subst h1
  rcases h2 with ⟨g, hg, e, h2⟩ | ⟨h2, -⟩
  · cases h2
    refine vnt (by decide) ?_
    rcases (show w = 0 ∨ w = 1 ∨ w = 2 ∨ w = 3 by omega) with rfl | rfl | rfl | rfl
    · refine vnf rfl ?_
      refine And.intro hin ?_
      refine vb (fun a => ?_) (fun a => ?_)
      · have a0 : p f = 0 := by
          rw [e6] at a
          rcases Nat.eq_zero_or_pos (p f) with z | z
          · exact z
          · exact absurd a (nI_nle z (by omega))
        refine vnt (by decide) ?_
        refine vnt (by decide) ?_
        refine vnt (by decide) ?_
        exact stay (by simp [mvD, up_id]) (by simp only [mvP, if_true]; rw [a0, show 0 - 1 = 0 from rfl, ← a0]; exact up_id)
      · have a0 : 0 < p f := by
          rw [e6] at a
          rcases Nat.eq_zero_or_pos (p f) with z | z
          · rw [z] at a; exact absurd (Int32.le_refl _) a
          · exact z
        refine And.intro hin ?_
        refine And.intro hin ?_
        refine ⟨fr.pi (by simp), ?_⟩
        rw [e6, nI_clamp (by omega), pk_sub (a := p f) (b := 1) (by omega)]
        have := sgP (f := f) (v := p f - 1) hs (by omega)
        simpa [mvD, mvP, up_id] using this
    · refine vnt (by decide) ?_
      refine vnf rfl ?_
      refine And.intro hin ?_
      refine vb (fun a => ?_) (fun a => ?_)
      · have a0 : ¬ p f < 31 := by
          rw [e6] at a
          intro z
          exact nnle 31 (p f) z (by omega) a
        refine vnt (by decide) ?_
        refine vnt (by decide) ?_
        exact stay (by simp [mvD, up_id]) (by simp [mvP, a0, up_id])
      · have a0 : p f < 31 := by
          rw [e6] at a
          rcases Nat.lt_or_ge (p f) 31 with z | z
          · exact z
          · exact absurd (nle 31 (p f) z (by omega)) a
        refine And.intro hin ?_
        refine And.intro hin ?_
        refine ⟨fr.pi (by simp), ?_⟩
        rw [e6, nI_clamp (by omega), nI_add]
        have := sgP (f := f) (v := p f + 1) hs (by omega)
        simpa [mvD, mvP, up_id, a0] using this
    · refine vnt (by decide) ?_
      refine vnt (by decide) ?_
      refine vnf rfl ?_
      refine And.intro hin ?_
      refine vb (fun a => ?_) (fun a => ?_)
      · have a0 : ¬ 1 < d f := by
          rw [e5] at a
          intro z
          exact nnle (d f) 1 z (by omega) a
        refine vnt (by decide) ?_
        exact stay (by simp [mvD, a0, up_id]) (by simp [mvP, up_id])
      · have a0 : 1 < d f := by
          rw [e5] at a
          rcases Nat.lt_or_ge 1 (d f) with z | z
          · exact z
          · exact absurd (nle (d f) 1 z (by omega)) a
        refine And.intro hin ?_
        refine And.intro hin ?_
        refine ⟨fr.pi (by simp), ?_⟩
        rw [e5, nI_clamp (by omega), pk_sub (a := d f) (b := 1) (by omega)]
        have := sgD (f := f) (v := d f - 1) hs (by omega) (by omega)
        simpa [mvD, mvP, up_id, a0] using this
    · refine vnt (by decide) ?_
      refine vnt (by decide) ?_
      refine vnt (by decide) ?_
      refine vnf rfl ?_
      refine And.intro hin ?_
      refine vb (fun a => ?_) (fun a => ?_)
      · have a0 : ¬ d f < 8 := by
          rw [e5] at a
          intro z
          exact nnle 8 (d f) z (by omega) a
        exact stay (by simp [mvD, a0, up_id]) (by simp [mvP, up_id])
      · have a0 : d f < 8 := by
          rw [e5] at a
          rcases Nat.lt_or_ge (d f) 8 with z | z
          · exact z
          · exact absurd (nle 8 (d f) z (by omega)) a
        refine And.intro hin ?_
        refine And.intro hin ?_
        refine ⟨fr.pi (by simp), ?_⟩
        rw [e5, nI_clamp (by omega), nI_add]
        have := sgD (f := f) (v := d f + 1) hs (by omega) (by omega)
        simpa [mvD, mvP, up_id, a0] using this
  · exact absurd rfl (h2 f hf)
end
section
/-! Stage: covers, light, touching -/
theorem rb (b : Bool) : nI b.toNat = 0 ↔ b = false := by
  cases b
  · exact ⟨fun _ => rfl, fun _ => rfl⟩
  · exact ⟨fun h => absurd h (by decide), fun h => by cases h⟩
theorem m_work {T : TT} {σ : qw_M} (hT : tr σ T) (hr : ry σ) {f L d p : Nat} (hf : f < tF T) (hL : L < 32) (h1 : 1 ≤ d) (h8 : d ≤ 8) (hp : p < 32) (hpl : (σ 24).1 f = nI p) : qw_Mt qw_tw wC my_X8_workOutCover [.ref 21, .int (nI f), .int (nI (ridx L d p))] σ (fun r σ' => σ' = σ ∧ ∃ x, r = some (.int x) ∧ ∀ c, c < 32 → bt x c = over L d p (tK T f) c) := by
  obtain ⟨⟨hF, hok⟩, -, htr⟩ := hT
  obtain ⟨-, -, -, -, hM1, hM6, hKM⟩ := hok f hf
  obtain ⟨-, -, -, -, hK⟩ := htr f hf
  have hi := ridx_lt hL h1 h8 hp
  refine mt_X8_workOutCover rfl ?_
  have loop : ∀ (n m : Nat) (x acc : Int32), m + n = 6 → p + m ≤ 32 → x = nI m → (∀ c, c < 32 → bt acc c = (decide (p ≤ ray L d c) && decide (ray L d c - p < m) && (tK T f).testBit (ray L d c - p))) →
      E_X8_workOutCover (fun r σ' => σ' = σ ∧ ∃ x, r = some (.int x) ∧ ∀ c, c < 32 → bt x c = over L d p (tK T f) c) 5 [(0, .ref 21), (1, .int (nI f)), (2, .int (nI (ridx L d p))), (3, .int acc), (4, .int x)] [] σ := by
    intro n
    induction n with
    | zero =>
      intro m x acc hm hpm hx hb
      subst hx
      refine ev_X8_workOutCover [5] 100 ?_
      refine vt (nle 6 m (by omega) (by omega)) ?_
      refine ⟨rfl, acc, rfl, fun c hc => ?_⟩
      rw [hb c hc]
      unfold over
      by_cases h : ray L d c - p < m
      · simp [h]
      · have : (tK T f).testBit (ray L d c - p) = false := by
          apply Nat.testBit_lt_two_pow
          exact Nat.lt_of_lt_of_le hKM (Nat.pow_le_pow_right (by omega) (by omega))
        simp [this]
    | succ n ih =>
      intro m x acc hm hpm hx hb
      subst hx
      refine ev_X8_workOutCover [5] 100 ?_
      refine vf (nnle 6 m (by omega) (by omega)) ?_
      refine And.intro (nin f 8 (by omega) (by omega)) ?_
      have e24 : (σ 24).1 (nI f).toNatClampNeg + nI m = nI (p + m) := by rw [nI_clamp (by omega), hpl, nI_add]
      by_cases hpm2 : p + m < 32
      · refine vf (by rw [e24]; exact nnle 32 (p + m) (by omega) (by omega)) ?_
        refine And.intro (nin f 8 (by omega) (by omega)) ?_
        have ec : ((σ 13).1 (nI f).toNatClampNeg >>> (nI m &&& 31)) &&& nI 1 = nI ((tK T f).testBit m).toNat := by
          rw [nI_clamp (by omega), hK, bt_s (by omega), bt_nI (by omega)]
        refine vb (fun a => ?_) (fun a => ?_)
        · rw [ec, rb] at a
          refine ih (m + 1) _ acc (by omega) (by omega) (nI_add m 1) (fun c hc => ?_)
          rw [hb c hc]
          by_cases h : ray L d c - p = m
          · rw [h, a]
            simp
          · have : (ray L d c - p < m ↔ ray L d c - p < m + 1) := by omega
            simp [this]
        · rw [ec, rb] at a
          have a : (tK T f).testBit m = true := by simpa using a
          refine vf (nI_pos (by omega)) ?_
          have e2 : ridx L d p + m = ridx L d (p + m) := by unfold ridx; omega
          have hi2 := ridx_lt hL h1 h8 hpm2
          refine vf (by rw [nI_add]; exact nnle 8192 (ridx L d p + m) (by omega) (by omega)) ?_
          refine And.intro (by rw [nI_add]; exact nin (ridx L d p + m) 8192 (by omega) (by omega)) ?_
          refine ih (m + 1) _ _ (by omega) (by omega) (nI_add m 1) (fun c hc => ?_)
          rw [b_or, hb c hc, nI_add, nI_clamp (by omega), e2, hr L d (p + m) c hL h1 h8 hpm2 hc]
          by_cases h : ray L d c = p + m
          · have e3 : ray L d c - p = m := by omega
            have e4 : p ≤ ray L d c := by omega
            simp [h, a]
          · by_cases h5 : p ≤ ray L d c
            · have : (ray L d c - p < m ↔ ray L d c - p < m + 1) := by omega
              simp [this, h]
            · simp [h5, h]
      · refine vt (by rw [e24]; exact nle 32 (p + m) (by omega) (by omega)) ?_
        refine ⟨rfl, acc, rfl, fun c hc => ?_⟩
        rw [hb c hc]
        unfold over
        have hR := ray_lt hL h8 hc
        have h : ray L d c - p < m ∨ ¬ p ≤ ray L d c := by omega
        rcases h with h | h <;> simp [h]
  refine ev_X8_workOutCover [5] 100 ?_
  refine loop 6 0 _ _ rfl (by omega) rfl (fun c hc => ?_)
  have h0 : bt (nI 0) c = false := b_0 c
  rw [h0]
  simp
theorem m_coverOf {T : TT} {σ : qw_M} (hT : tr σ T) (hr : ry σ) (hc : ca σ T) {d p q : Nat → Nat} (hs : sg σ (tF T) d p q) {L : Nat} (hL : sl σ L) {f : Nat} (hf8 : f < 8) : qw_Mt qw_tw wC my_X8_coverOf [.ref 21, .int (nI f)] σ (fun r σ' => fr [26, 27] σ σ' ∧ ca σ' T ∧ ∃ x, r = some (.int x) ∧ ∀ c, c < 32 → bt x c = (decide (f < tF T) && over L (d f) (p f) (tK T f) c)) := by
  have hin : vp_in (nI f) 8 := nin f 8 (by omega) (by omega)
  refine mt_X8_coverOf rfl (ev_X8_coverOf [] 100 ?_)
  refine ⟨trivial, _, m_has hT _, fun x σ' _ ⟨h1, h2⟩ => ?_⟩
  have h1 := h1.symm
  subst h1
  rcases h2 with ⟨g, hg, e, h2⟩ | ⟨h2, h3⟩
  · cases h2
    have hfg : f = g := nI_i (by omega) (by have := hT.1.1; omega) e
    subst hfg
    obtain ⟨s1, s2, s3, s4, s5, s6, s7⟩ := hs f hg
    have hi := ridx_lt hL.1 s1 s2 s3
    refine vnt (by decide) ?_
    refine And.intro hin ?_
    refine And.intro hin ?_
    refine ⟨trivial, fun r σ' => σ' = σ ∧ r = some (.int (nI (ridx L (d f) (p f)))), ?_, fun x σ' h => ?_⟩
    · rw [nI_clamp (by omega)]
      show qw_Mt qw_tw wC my_X8_rayTo [.int ((σ 21).1 8), .int ((σ 23).1 f), .int ((σ 24).1 f)] σ _
      rw [hL.2, s5, s6]
      exact m_rayTo s1
    obtain ⟨h1, h2⟩ := h
    cases h2
    have h1 := h1.symm
    subst h1
    refine And.intro hin ?_
    refine vb (fun a => ?_) (fun a => ?_)
    · refine And.intro hin ?_
      refine ⟨fr.rf, hc, _, rfl, fun c hc32 => ?_⟩
      rw [nI_clamp (by omega)] at a ⊢
      rcases hc f hf8 with z | ⟨L2, d2, p2, z1, z2, z3, z4, z5, z6, z7⟩
      · rw [z] at a
        exact absurd a.symm (nI_m1 (by omega))
      · rw [z6] at a
        have hi2 := ridx_lt z2 z3 z4 z5
        obtain ⟨rfl, e2, e3⟩ := ridx_inj z3 z4 z5 s1 s2 s3 (nI_i (by omega) (by omega) a)
        rw [z7 c hc32, e2, e3]
        simp [hg]
    · refine And.intro hin ?_
      have hσ : fr [26] σ (qw_pi σ 26 f (nI (ridx L (d f) (p f)))) := fr.pi (by simp)
      refine ⟨trivial, fun r σ' => σ' = qw_pi σ 26 f (nI (ridx L (d f) (p f))) ∧ ∃ x, r = some (.int x) ∧ ∀ c, c < 32 → bt x c = over L (d f) (p f) (tK T f) c, ?_, fun x σ' h => ?_⟩
      · rw [nI_clamp (by omega)]
        exact m_work (hT.fr hσ (by intro k _ _; simp; omega)) (hr.fr hσ (by decide)) hg hL.1 s1 s2 s3 (by rw [hσ 24 (by decide)]; exact s6)
      obtain ⟨h1, y, h2, h3⟩ := h
      cases h2
      have h1 := h1.symm
      subst h1
      refine And.intro hin ?_
      refine And.intro hin ?_
      rw [nI_clamp (by omega)]
      refine ⟨hσ.mo (by simp) |>.tr (fr.pi (by simp)), ?_, _, rfl, fun c hc32 => ?_⟩
      · intro g hg8
        by_cases e : g = f
        · subst e
          refine Or.inr ⟨L, d g, p g, hg, hL.1, s1, s2, s3, ?_, fun c hc32 => ?_⟩
          · rw [pi_off (by decide)]
            exact pi_eq
          · rw [pi_eq]
            exact h3 c hc32
        · have e1 : (qw_pi (qw_pi σ 26 f (nI (ridx L (d f) (p f)))) 27 f x 26).1 g = (σ 26).1 g := by rw [pi_off (by decide), pi_ne e]
          have e2 : (qw_pi (qw_pi σ 26 f (nI (ridx L (d f) (p f)))) 27 f x 27).1 g = (σ 27).1 g := by rw [pi_ne e, pi_off (by decide)]
          rw [e1, e2]
          exact hc g hg8
      · rw [pi_eq, h3 c hc32]
        simp [hg]
  · cases h3
    refine vnf rfl ?_
    refine ⟨fr.rf, hc, _, rfl, fun c hc => ?_⟩
    have : ¬ f < tF T := fun z => h2 f z rfl
    have h0 : bt (nI 0) c = false := b_0 c
    rw [h0]
    simp [this]
end
section
/-! Stage: light, touching -/
theorem m_dim0 {k : Nat} (hk : qr_glow k) {σ : qw_M} {G : Nat → Nat} (hg : gl σ k G) {x y : Int32} (hx : ∀ c, c < 32 → bt x c = false) : qw_Mt qw_tw wC my_X2_dim [.ref k, .int x, .int y] σ (fun _ σ' => fr [k] σ σ' ∧ gl σ' k G) := by
  have e : ∀ z : Int32, z &&& (x ^^^ Int32.ofInt (Int.negSucc 0)) = z := fun z => b_ext (fun i hi => by rw [bt_neg hi, hx i hi]; simp)
  have fin : ∀ σ' : qw_M, fr [k] σ σ' → (σ' k).1 0 = (σ k).1 0 → (σ' k).1 1 = (σ k).1 1 → (σ' k).1 2 = (σ k).1 2 → fr [k] σ σ' ∧ gl σ' k G := fun σ' h h0 h1 h2 => ⟨h, fun c hc => by rw [h0, h1, h2]; exact hg c hc⟩
  have m : ∀ l : List Nat, k ∈ k :: l := fun l => List.mem_cons_self
  rcases hk with rfl | rfl | rfl
  all_goals
    refine mt_X2_dim rfl (ev_X2_dim [] 100 ?_)
    refine vb (fun _ => ?_) (fun _ => ?_)
    · refine vb (fun _ => ?_) (fun _ => ?_)
      · refine vb (fun _ => ?_) (fun _ => ?_)
        · exact fin _ fr.rf rfl rfl rfl
        · refine fin _ (fr.pi (m _)) ?_ ?_ ?_ <;> (simp only [pi_at, e]; try simp)
      · refine vb (fun _ => ?_) (fun _ => ?_)
        · refine fin _ (fr.pi (m _)) ?_ ?_ ?_ <;> (simp only [pi_at, e]; try simp)
        · refine fin _ ((fr.pi (m _)).tr (fr.pi (m _))) ?_ ?_ ?_ <;> (simp only [pi_at, e]; try simp)
    · refine vb (fun _ => ?_) (fun _ => ?_)
      · refine vb (fun _ => ?_) (fun _ => ?_)
        · refine fin _ (fr.pi (m _)) ?_ ?_ ?_ <;> (simp only [pi_at, e]; try simp)
        · refine fin _ ((fr.pi (m _)).tr (fr.pi (m _))) ?_ ?_ ?_ <;> (simp only [pi_at, e]; try simp)
      · refine vb (fun _ => ?_) (fun _ => ?_)
        · refine fin _ ((fr.pi (m _)).tr (fr.pi (m _))) ?_ ?_ ?_ <;> (simp only [pi_at, e]; try simp)
        · refine fin _ (((fr.pi (m _)).tr (fr.pi (m _))).tr (fr.pi (m _))) ?_ ?_ ?_ <;> (simp only [pi_at, e]; try simp)
/-- the light of a cell behind the first figures of F, some left out -/
def lit (F : Nat) (cov : Nat → Nat → Bool) (q : Nat → Nat) (wo : Nat → Bool) : Nat → Nat → Nat
  | 0, _ => 7
  | f + 1, c => if !wo f && (decide (f < F) && cov f c) then lit F cov q wo f c &&& leave (q f) else lit F cov q wo f c
/-- which cell which figure covers -/
def cv (T : TT) (L : Nat) (d p : Nat → Nat) (f c : Nat) : Bool := over L (d f) (p f) (tK T f) c
theorem m_shine {T : TT} {σ : qw_M} (hT : tr σ T) (hr : ry σ) (hc : ca σ T) {d p q : Nat → Nat} (hs : sg σ (tF T) d p q) {L : Nat} (hL : sl σ L) (fl : Bool) (wo : Int32) : qw_Mt qw_tw wC my_X8_shine [.ref 21, .int (nI fl.toNat), .int wo] σ (fun _ σ' => fr [26, 27, 28] σ σ' ∧ ca σ' T ∧ gl σ' 28 (fun c => if fl then 0 else lit (tF T) (cv T L d p) q (bt wo) 8 c)) := by
  refine mt_X8_shine rfl ?_
  have loop : ∀ (n j : Nat) (x : Int32) (σ' : qw_M), j + n = 8 → x = nI j → fr [26, 27, 28] σ σ' → ca σ' T → gl σ' 28 (lit (tF T) (cv T L d p) q (bt wo) j) →
      E_X8_shine (fun _ σ' => fr [26, 27, 28] σ σ' ∧ ca σ' T ∧ gl σ' 28 (fun c => if false = true then 0 else lit (tF T) (cv T L d p) q (bt wo) 8 c)) 18 [(0, .ref 21), (1, .int (nI 0)), (2, .int wo), (3, .int x)] [] σ' := by
    intro n
    induction n with
    | zero =>
      intro j x σ' hj hx hf hc' hg
      subst hx
      refine ev_X8_shine [18] 100 ?_
      refine vt (nle 8 j (by omega) (by omega)) ?_
      have : j = 8 := by omega
      subst this
      exact ⟨hf, hc', hg⟩
    | succ n ih =>
      intro j x σ' hj hx hf hc' hg
      subst hx
      refine ev_X8_shine [18] 100 ?_
      refine vf (nnle 8 j (by omega) (by omega)) ?_
      refine vnf rfl ?_
      have ew : (wo >>> (nI j &&& 31)) &&& nI 1 = nI (bt wo j).toNat := bt_s (by omega)
      refine vnb (fun a => ?_) (fun a => ?_)
      · rw [ew, rb] at a
        have a : bt wo j = true := by simpa using a
        refine ih (j + 1) _ _ (by omega) (nI_add j 1) hf hc' (hg.congr (fun c hc => ?_))
        simp [lit, a]
      · rw [ew, rb] at a
        have hT' := hT.fr hf (by intro k _ _; simp; omega)
        have hr' := hr.fr hf (by decide)
        have hs' := hs.fr hf (by intro k _ _; simp; omega)
        have hL' := hL.fr hf (by decide)
        refine ⟨trivial, _, m_coverOf hT' hr' hc' hs' hL' (f := j) (by omega), fun x σ2 ⟨g1, g2, y, g3, g4⟩ => ?_⟩
        cases g3
        refine And.intro (nin j 8 (by omega) (by omega)) ?_
        have hg2 := hg.fr g1 (by decide)
        have hf2 : fr [26, 27, 28] σ σ2 := hf.tr (g1.mo (by simp))
        by_cases hjF : j < tF T
        · have hcol : (σ2 25).1 (nI j).toNatClampNeg = nI (q j) := by
            rw [nI_clamp (by omega), hf2 25 (by decide)]
            exact (hs j hjF).2.2.2.2.2.2
          refine ⟨trivial, fun _ σ' => fr [28] σ2 σ' ∧ gl σ' 28 (fun c => if (decide (j < tF T) && over L (d j) (p j) (tK T j) c) then lit (tF T) (cv T L d p) q (bt wo) j c &&& leave (q j) else lit (tF T) (cv T L d p) q (bt wo) j c), ?_, fun σ3 ⟨k1, k2⟩ => ?_⟩
          · rw [hcol]
            exact m_dim (Or.inr (Or.inl rfl)) hg2 g4 (hs j hjF).2.2.2.1
          · refine ih (j + 1) _ _ (by omega) (nI_add j 1) (hf2.tr (k1.mo (by simp))) (g2.fr k1 (by decide)) (k2.congr (fun c hc => ?_))
            simp [lit, a, cv]
        · refine ⟨trivial, _, m_dim0 (Or.inr (Or.inl rfl)) hg2 (fun c hc => by rw [g4 c hc]; simp [hjF]), fun σ3 ⟨k1, k2⟩ => ?_⟩
          refine ih (j + 1) _ _ (by omega) (nI_add j 1) (hf2.tr (k1.mo (by simp))) (g2.fr k1 (by decide)) (k2.congr (fun c hc => ?_))
          simp [lit, hjF]
  cases fl with
  | false =>
    refine ev_X8_shine [18] 100 ?_
    refine vt rfl ?_
    refine ⟨trivial, _, m_fill7 (Or.inr (Or.inl rfl)), fun σ2 ⟨k1, k2⟩ => ?_⟩
    exact loop 8 0 _ _ rfl rfl (k1.mo (by simp)) (hc.fr k1 (by decide)) k2
  | true =>
    refine ev_X8_shine [18] 100 ?_
    refine vf (by decide) ?_
    refine ⟨trivial, _, m_fill0 (Or.inr (Or.inl rfl)), fun σ2 ⟨k1, k2⟩ => ?_⟩
    refine ev_X8_shine [18] 100 ?_
    refine vf (by decide) ?_
    refine vnt (by decide) ?_
    exact ⟨k1.mo (by simp), hc.fr k1 (by decide), k2⟩
theorem m_dimBy {T : TT} {σ : qw_M} (hT : tr σ T) (hr : ry σ) (hc : ca σ T) {d p q : Nat → Nat} (hs : sg σ (tF T) d p q) {L : Nat} (hL : sl σ L) {f : Nat} (hf : f < tF T) {G : Nat → Nat} (hg : gl σ 28 G) : qw_Mt qw_tw wC my_X8_dimBy [.ref 21, .int (nI f)] σ (fun _ σ' => fr [26, 27, 28] σ σ' ∧ ca σ' T ∧ gl σ' 28 (fun c => if cv T L d p f c then G c &&& leave (q f) else G c)) := by
  have hF := hT.1.1
  refine mt_X8_dimBy rfl (ev_X8_dimBy [] 100 ?_)
  refine ⟨trivial, _, m_has hT _, fun x σ' _ ⟨h1, h2⟩ => ?_⟩
  have h1 := h1.symm
  subst h1
  rcases h2 with ⟨g, hg, e, h2⟩ | ⟨h2, -⟩
  · cases h2
    refine vf (by decide) ?_
    refine ⟨trivial, _, m_coverOf hT hr hc hs hL (f := f) (by omega), fun x σ2 ⟨g1, g2, y, g3, g4⟩ => ?_⟩
    cases g3
    refine And.intro (nin f 8 (by omega) (by omega)) ?_
    have hcol : (σ2 25).1 (nI f).toNatClampNeg = nI (q f) := by
      rw [nI_clamp (by omega), g1 25 (by decide)]
      exact (hs f hf).2.2.2.2.2.2
    refine ⟨trivial, fun _ σ' => fr [28] σ2 σ' ∧ gl σ' 28 (fun c => if (decide (f < tF T) && over L (d f) (p f) (tK T f) c) then G c &&& leave (q f) else G c), ?_, fun σ3 ⟨k1, k2⟩ => ?_⟩
    · rw [hcol]
      exact m_dim (Or.inr (Or.inl rfl)) (‹gl σ 28 G›.fr g1 (by decide)) g4 (hs f hf).2.2.2.1
    · refine ⟨(g1.mo (by simp)).tr (k1.mo (by simp)), g2.fr k1 (by decide), k2.congr (fun c hc => ?_)⟩
      cases h : over L (d f) (p f) (tK T f) c <;> simp [cv, hf, h]
  · exact absurd rfl (h2 f hf)
/-- whether two figures touch -/
def tch (T : TT) (d p : Nat → Nat) (a b : Nat) : Bool := decide (d a = d b) && (decide (p a < p b + tM T b) && decide (p b < p a + tM T a))
theorem m_touchingPair {T : TT} {σ : qw_M} (hT : tr σ T) {d p q : Nat → Nat} (hs : sg σ (tF T) d p q) : qw_Mt qw_tw wC my_X8_touchingPair [.ref 21] σ (fun r σ' => σ' = σ ∧ ((∃ a b, a < b ∧ b < tF T ∧ tch T d p a b = true ∧ (∀ a2 b2, a2 < b2 → b2 < tF T → a2 < a ∨ (a2 = a ∧ b2 < b) → tch T d p a2 b2 = false) ∧ r = some (.int (nI (a * 8 + b)))) ∨ ((∀ a b, a < b → b < tF T → tch T d p a b = false) ∧ r = some (.int (Int32.ofInt (Int.negSucc 0)))))) := by
  obtain ⟨⟨hF, hok⟩, hn, htr⟩ := hT
  refine mt_X8_touchingPair rfl ?_
  generalize hQ : (fun (r : Option Value) (σ' : qw_M) => σ' = σ ∧ ((∃ a b, a < b ∧ b < tF T ∧ tch T d p a b = true ∧ (∀ a2 b2, a2 < b2 → b2 < tF T → a2 < a ∨ (a2 = a ∧ b2 < b) → tch T d p a2 b2 = false) ∧ r = some (.int (nI (a * 8 + b)))) ∨ ((∀ a b, a < b → b < tF T → tch T d p a b = false) ∧ r = some (.int (Int32.ofInt (Int.negSucc 0)))))) = Q
  have inner : ∀ (n a b : Nat) (y : Int32), b + n = tF T → a < b → a < tF T → y = nI b → (∀ a2 b2, a2 < b2 → b2 < tF T → a2 < a ∨ (a2 = a ∧ b2 < b) → tch T d p a2 b2 = false) →
      (∀ y, (∀ a2 b2, a2 < b2 → b2 < tF T → a2 < a + 1 → tch T d p a2 b2 = false) → E_X8_touchingPair Q 118 [(0, .ref 21), (1, .int (nI a)), (2, .int y)] [] σ) →
      E_X8_touchingPair Q 23 [(0, .ref 21), (1, .int (nI a)), (2, .int y)] [] σ := by
    intro n
    induction n with
    | zero =>
      intro a b y hb hab haF hy hno kk
      subst hy
      refine ev_X8_touchingPair [23, 118] 100 ?_
      refine vt (by rw [hn]; exact nle (tF T) b (by omega) (by omega)) ?_
      exact kk _ (fun a2 b2 h1 h2 h3 => hno a2 b2 h1 h2 (by omega))
    | succ n ih =>
      intro a b y hb hab haF hy hno kk
      subst hy
      have hbF : b < tF T := by omega
      obtain ⟨a1, a2, a3, a4, a5, a6, a7⟩ := hs a haF
      obtain ⟨b1, b2, b3, b4, b5, b6, b7⟩ := hs b hbF
      obtain ⟨-, -, -, -, am1, am6, -⟩ := hok a haF
      obtain ⟨-, -, -, -, bm1, bm6, -⟩ := hok b hbF
      obtain ⟨-, -, -, am, -⟩ := htr a haF
      obtain ⟨-, -, -, bm, -⟩ := htr b hbF
      have ina : vp_in (nI a) 8 := nin a 8 (by omega) (by omega)
      have inb : vp_in (nI b) 8 := nin b 8 (by omega) (by omega)
      have ka : (nI a).toNatClampNeg = a := nI_clamp (by omega)
      have kb : (nI b).toNatClampNeg = b := nI_clamp (by omega)
      have next : tch T d p a b = false → E_X8_touchingPair Q 23 [(0, .ref 21), (1, .int (nI a)), (2, .int (nI b + nI 1))] [] σ := fun hf =>
        ih a (b + 1) _ (by omega) (by omega) haF (nI_add b 1) (fun a2 b2 h1 h2 h3 => by
          by_cases h : a2 = a ∧ b2 = b
          · rw [h.1, h.2]
            exact hf
          · exact hno a2 b2 h1 h2 (by omega)) kk
      refine ev_X8_touchingPair [23, 118] 100 ?_
      refine vf (by rw [hn]; exact nnle (tF T) b (by omega) (by omega)) ?_
      refine vf (nnle 8 b (by omega) (by omega)) ?_
      refine And.intro ina ?_
      refine And.intro inb ?_
      rw [ka, kb, a5, b5]
      by_cases c1 : d a = d b
      · refine vnf (by rw [c1]) ?_
        refine And.intro ina ?_
        refine And.intro inb ?_
        refine And.intro inb ?_
        rw [ka, kb, a6, b6, bm]
        by_cases c2 : p a < p b + tM T b
        · refine vf (by rw [nI_add]; exact nnle (p b + tM T b) (p a) (by omega) (by omega)) ?_
          refine And.intro inb ?_
          refine And.intro ina ?_
          refine And.intro ina ?_
          rw [ka, kb, a6, b6, am]
          by_cases c3 : p b < p a + tM T a
          · refine vf (by rw [nI_add]; exact nnle (p a + tM T a) (p b) (by omega) (by omega)) ?_
            subst hQ
            refine ⟨rfl, Or.inl ⟨a, b, hab, hbF, by simp [tch, c1, c2, c3], hno, ?_⟩⟩
            show some (Value.int (nI a * nI 8 + nI b)) = _
            rw [pk_mul, nI_add]
          · refine vt (by rw [nI_add]; exact nle (p a + tM T a) (p b) (by omega) (by omega)) ?_
            exact next (by simp [tch, c3])
        · refine vt (by rw [nI_add]; exact nle (p b + tM T b) (p a) (by omega) (by omega)) ?_
          exact next (by simp [tch, c2])
      · refine vnt (nne (d a) (d b) c1 (by omega) (by omega)) ?_
        exact next (by simp [tch, c1])
  have outer : ∀ (n a : Nat) (x : Int32), a + n = tF T → x = nI a → (∀ a2 b2, a2 < b2 → b2 < tF T → a2 < a → tch T d p a2 b2 = false) → ∀ ls, ls = [(0, Value.ref 21), (1, .int x)] → E_X8_touchingPair Q 2 ls [] σ := by
    intro n
    induction n with
    | zero =>
      intro a x ha hx hno ls hls
      subst hx
      subst hls
      refine ev_X8_touchingPair [2, 23] 100 ?_
      refine vt (by rw [hn]; exact nle (tF T) a (by omega) (by omega)) ?_
      subst hQ
      exact ⟨rfl, Or.inr ⟨fun a2 b2 h1 h2 => hno a2 b2 h1 h2 (by omega), rfl⟩⟩
    | succ n ih =>
      intro a x ha hx hno ls hls
      subst hx
      subst hls
      refine ev_X8_touchingPair [2, 23] 100 ?_
      refine vf (by rw [hn]; exact nnle (tF T) a (by omega) (by omega)) ?_
      refine vf (nnle 8 a (by omega) (by omega)) ?_
      refine inner (tF T - (a + 1)) a (a + 1) _ (by omega) (by omega) (by omega) (nI_add a 1) (fun a2 b2 h1 h2 h3 => hno a2 b2 h1 h2 (by omega)) (fun y hno2 => ?_)
      refine ev_X8_touchingPair [2, 23] 100 ?_
      refine qw_Ev.sub (ih (a + 1) _ (by omega) (nI_add a 1) (fun a2 b2 h1 h2 h3 => hno2 a2 b2 h1 h2 h3) _ rfl) ?_
      intro z hz
      simp only [List.mem_cons, List.not_mem_nil, or_false] at hz
      rcases hz with rfl | rfl
      · exact List.mem_of_getElem? (i := 0) rfl
      · exact List.mem_of_getElem? (i := 1) rfl
  refine ev_X8_touchingPair [2, 23] 100 ?_
  exact outer (tF T) 0 _ (by omega) rfl (fun a2 b2 h1 h2 h3 => absurd h3 (Nat.not_lt_zero _)) _ rfl
end
section
/-! Cues and Picture, read -/
abbrev CC : Type := Nat → Option (Nat × Nat)
def cuf (C : CC) (s : Nat) : Int32 := match C s with
  | some q => nI q.1
  | none => Int32.ofInt (Int.negSucc 0)
def cuw (C : CC) (s : Nat) : Int32 := match C s with
  | some q => nI q.2
  | none => Int32.ofInt (Int.negSucc 0)
/-- cues in the object k (14 those told, 39 the lots): its arrays lie behind it -/
def cu (σ : qw_M) (k : Nat) (C : CC) : Prop := (∀ s f w, C s = some (f, w) → f < 8 ∧ w < 4) ∧ ∃ n, n ≤ 20 ∧ (σ k).1 2 = nI n ∧ (∀ s, n ≤ s → C s = none) ∧ ∀ s, s < n → (σ (k + 1)).1 s = cuf C s ∧ (σ (k + 2)).1 s = cuw C s
theorem cu.fr {σ σ' : qw_M} {k : Nat} {C : CC} {l : List Nat} (h : cu σ k C) (hf : fr l σ σ') (h0 : k ∉ l) (h1 : k + 1 ∉ l) (h2 : k + 2 ∉ l) : cu σ' k C := by
  unfold cu
  rw [hf k h0, hf (k + 1) h1, hf (k + 2) h2]
  exact h
theorem cuf_none {C : CC} {s : Nat} (h : C s = none) : cuf C s = Int32.ofInt (Int.negSucc 0) := by simp only [cuf, h]
theorem cuw_none {C : CC} {s : Nat} (h : C s = none) : cuw C s = Int32.ofInt (Int.negSucc 0) := by simp only [cuw, h]
theorem m_figureOf {k : Nat} (hk : k = 14 ∨ k = 39) {σ : qw_M} {C : CC} (hC : cu σ k C) {s : Nat} (hs : s < 20) : qw_Mt qw_tw wC my_X1_figureOf [.ref k, .int (nI s)] σ (fun r σ' => σ' = σ ∧ r = some (.int (cuf C s))) := by
  obtain ⟨-, n, hn, h1, h2, h3⟩ := hC
  rcases hk with rfl | rfl
  all_goals
    refine mt_X1_figureOf rfl (ev_X1_figureOf [] 100 ?_)
    refine vf (nI_pos (by omega)) ?_
    by_cases c : s < n
    · refine vf (by rw [h1]; exact nnle n s c (by omega)) ?_
      refine vf (nnle 20 s (by omega) (by omega)) ?_
      refine And.intro (nin s 20 (by omega) (by omega)) ?_
      refine ⟨rfl, ?_⟩
      rw [nI_clamp (by omega), ← (h3 s c).1]
    · refine vt (by rw [h1]; exact nle n s (by omega) (by omega)) ?_
      refine ⟨rfl, ?_⟩
      rw [cuf_none (h2 s (by omega))]
theorem m_whitherOf {k : Nat} (hk : k = 14 ∨ k = 39) {σ : qw_M} {C : CC} (hC : cu σ k C) {s : Nat} (hs : s < 20) : qw_Mt qw_tw wC my_X1_whitherOf [.ref k, .int (nI s)] σ (fun r σ' => σ' = σ ∧ r = some (.int (cuw C s))) := by
  obtain ⟨-, n, hn, h1, h2, h3⟩ := hC
  rcases hk with rfl | rfl
  all_goals
    refine mt_X1_whitherOf rfl (ev_X1_whitherOf [] 100 ?_)
    refine vf (nI_pos (by omega)) ?_
    by_cases c : s < n
    · refine vf (by rw [h1]; exact nnle n s c (by omega)) ?_
      refine vf (nnle 20 s (by omega) (by omega)) ?_
      refine And.intro (nin s 20 (by omega) (by omega)) ?_
      refine ⟨rfl, ?_⟩
      rw [nI_clamp (by omega), ← (h3 s c).2]
    · refine vt (by rw [h1]; exact nle n s (by omega) (by omega)) ?_
      refine ⟨rfl, ?_⟩
      rw [cuw_none (h2 s (by omega))]
theorem m_steps {σ : qw_M} {C : CC} (hC : cu σ 14 C) : qw_Mt qw_tw wC my_X1_steps [.ref 14] σ (fun r σ' => σ' = σ ∧ ∃ x, r = some (.int x) ∧ ∀ i, i < 32 → bt x i = (C i).isSome) := by
  have hbig : ∀ i, 20 ≤ i → C i = none := by
    obtain ⟨-, n, hn, -, h2, -⟩ := hC
    exact fun i hi => h2 i (by omega)
  refine mt_X1_steps rfl ?_
  have loop : ∀ (n j : Nat) (x acc : Int32), j + n = 20 → x = nI j → (∀ i, i < 32 → bt acc i = (decide (i < j) && (C i).isSome)) →
      E_X1_steps (fun r σ' => σ' = σ ∧ ∃ x, r = some (.int x) ∧ ∀ i, i < 32 → bt x i = (C i).isSome) 4 [(0, .ref 14), (1, .int acc), (2, .int x)] [] σ := by
    intro n
    induction n with
    | zero =>
      intro j x acc hj hx hb
      subst hx
      refine ev_X1_steps [4] 100 ?_
      refine vt (nle 20 j (by omega) (by omega)) ?_
      refine ⟨rfl, acc, rfl, fun i hi => ?_⟩
      rw [hb i hi]
      by_cases h : i < j
      · simp [h]
      · simp [hbig i (by omega)]
    | succ n ih =>
      intro j x acc hj hx hb
      subst hx
      refine ev_X1_steps [4] 100 ?_
      refine vf (nnle 20 j (by omega) (by omega)) ?_
      refine ⟨trivial, _, m_figureOf (Or.inl rfl) hC (s := j) (by omega), fun x σ' ⟨h1, h2⟩ => ?_⟩
      cases h2
      have h1 := h1.symm
      subst h1
      cases hCj : C j with
      | none =>
        refine vt (cuf_none hCj) ?_
        refine ih (j + 1) _ acc (by omega) (nI_add j 1) (fun i hi => ?_)
        rw [hb i hi]
        by_cases h : i = j
        · subst h
          simp [hCj]
        · have : (i < j ↔ i < j + 1) := by omega
          simp [this]
      | some q =>
        have hq := hC.1 j q.1 q.2 hCj
        refine vf (by simp only [cuf, hCj]; exact nI_m1 (by omega)) ?_
        refine ih (j + 1) _ _ (by omega) (nI_add j 1) (fun i hi => ?_)
        rw [b_or, hb i hi, bt_shl1 (by omega) hi]
        by_cases h : i = j
        · subst h
          simp [hCj]
        · have : (i < j ↔ i < j + 1) := by omega
          simp [this, h]
  refine ev_X1_steps [4] 100 ?_
  refine loop 20 0 _ _ rfl rfl (fun i hi => ?_)
  have h0 : bt (nI 0) i = false := b_0 i
  rw [h0]
  simp
/-- THE PICTURE: what light each cell should have -/
def pic (σ : qw_M) (P : Nat → Option Nat) : Prop := ∃ W, gl σ 18 W ∧ ∀ c, c < 32 → bt ((σ 17).1 1) c = (P c).isSome ∧ ∀ v, P c = some v → W c = v
theorem pic.fr {σ σ' : qw_M} {P : Nat → Option Nat} {l : List Nat} (h : pic σ P) (hf : fr l σ σ') (h0 : 17 ∉ l) (h1 : 18 ∉ l) : pic σ' P := by
  obtain ⟨W, h2, h3⟩ := h
  exact ⟨W, h2.fr hf h1, by rw [hf 17 h0]; exact h3⟩
def pwr (P : Nat → Option Nat) (G : Nat → Nat) (c : Nat) : Bool := match P c with
  | some v => !(v == G c)
  | none => false
/-- by how many cells it is false; how many are told; whether it is shown -/
def pfa (P : Nat → Option Nat) (G : Nat → Nat) : Nat := cnt (pwr P G) 32
def ptl (P : Nat → Option Nat) : Nat := cnt (fun c => (P c).isSome) 32
def psh (P : Nat → Option Nat) (G : Nat → Nat) : Bool := decide (0 < ptl P) && decide (pfa P G = 0)
theorem cnt_zero {f : Nat → Bool} : ∀ {n : Nat}, cnt f n = 0 ↔ ∀ i, i < n → f i = false
  | 0 => ⟨fun _ i h => absurd h (Nat.not_lt_zero i), fun _ => rfl⟩
  | n + 1 => by
    have ih := cnt_zero (f := f) (n := n)
    constructor
    · intro h i hi
      have h1 : cnt f n + (f n).toNat = 0 := h
      have h2 : (f n).toNat = 0 := by omega
      rcases Nat.lt_or_ge i n with q | q
      · exact ih.mp (by omega) i q
      · have : i = n := by omega
        subst this
        cases hf : f i
        · rfl
        · rw [hf] at h2
          cases h2
    · intro h
      show cnt f n + (f n).toNat = 0
      rw [ih.mpr (fun i hi => h i (by omega)), h n (by omega)]
      rfl
theorem m_picLightOf {σ : qw_M} {P : Nat → Option Nat} (hP : pic σ P) {c : Nat} (hc : c < 32) : qw_Mt qw_tw wC my_X3_lightOf [.ref 17, .int (nI c)] σ (fun r σ' => σ' = σ ∧ r = some (.int (match P c with | some v => nI v | none => Int32.ofInt (Int.negSucc 0)))) := by
  obtain ⟨W, h1, h2⟩ := hP
  obtain ⟨h3, h4⟩ := h2 c hc
  refine mt_X3_lightOf rfl (ev_X3_lightOf [] 100 ?_)
  cases hPc : P c with
  | none =>
    refine vt (by rw [bt_u hc, rb, h3, hPc]; rfl) ?_
    exact ⟨rfl, rfl⟩
  | some v =>
    refine vf (by rw [bt_u hc, rb, h3, hPc]; simp) ?_
    refine ⟨trivial, _, m_lightOf (Or.inl rfl) h1 hc, fun x σ' ⟨k1, k2⟩ => ?_⟩
    cases k2
    refine ⟨k1, ?_⟩
    rw [h4 v hPc]
theorem m_falseBy {σ : qw_M} {P : Nat → Option Nat} (hP : pic σ P) {G : Nat → Nat} (hG : gl σ 28 G) : qw_Mt qw_tw wC my_X3_falseBy [.ref 17, .ref 28] σ (fun r σ' => σ' = σ ∧ r = some (.int (nI (pfa P G)))) := by
  obtain ⟨W, h1, h2⟩ := hP
  have key : ∀ v, v < 8 → ∀ g, g < 8 → ((some v).isSome && ((g.testBit 2 ^^ v.testBit 2) || (g.testBit 1 ^^ v.testBit 1) || (g.testBit 0 ^^ v.testBit 0))) = !(v == g) := by decide +kernel
  refine mt_X3_falseBy rfl (ev_X3_falseBy [] 100 ?_)
  refine ⟨trivial, _, m_bitCount _, fun x σ' ⟨k1, k2⟩ => ?_⟩
  cases k2
  refine ⟨k1, ?_⟩
  show some (Value.int _) = _
  congr 3
  refine cnt_congr (fun c hc => ?_)
  obtain ⟨w0, w1, w2, w3⟩ := h1 c hc
  obtain ⟨g0, g1, g2, g3⟩ := hG c hc
  obtain ⟨h3, h4⟩ := h2 c hc
  show bt ((σ 17).1 1 &&& ((((σ 28).1 0) ^^^ ((σ 18).1 0)) ||| (((σ 28).1 1) ^^^ ((σ 18).1 1)) ||| (((σ 28).1 2) ^^^ ((σ 18).1 2)))) c = _
  rw [b_and, b_or, b_or, b_xor, b_xor, b_xor, h3, w1, w2, w3, g1, g2, g3]
  unfold pwr
  cases hPc : P c with
  | none => rfl
  | some v =>
    rw [h4 v hPc] at w0 ⊢
    exact key v w0 (G c) g0
theorem m_isShownBy {σ : qw_M} {P : Nat → Option Nat} (hP : pic σ P) {G : Nat → Nat} (hG : gl σ 28 G) : qw_Mt qw_tw wC my_X3_isShownBy [.ref 17, .ref 28] σ (fun r σ' => σ' = σ ∧ r = some (.int (nI (psh P G).toNat))) := by
  have hz : (σ 17).1 1 = 0 ↔ ptl P = 0 := by
    obtain ⟨W, h1, h2⟩ := hP
    constructor
    · intro h
      refine cnt_zero.mpr (fun i hi => ?_)
      rw [← (h2 i hi).1, h]
      exact b_0 i
    · intro h
      apply b_ext
      intro i hi
      rw [(h2 i hi).1, cnt_zero.mp h i hi]
      exact (b_0 i).symm
  have hp32 : pfa P G ≤ 32 := cnt_le _ 32
  refine mt_X3_isShownBy rfl (ev_X3_isShownBy [] 100 ?_)
  by_cases h : ptl P = 0
  · refine vt (hz.mpr h) ?_
    refine ⟨Or.inl rfl, rfl, ?_⟩
    simp [psh, h]
  · refine vf (fun z => h (hz.mp z)) ?_
    refine ⟨trivial, _, m_falseBy hP hG, fun x σ' ⟨k1, k2⟩ => ?_⟩
    cases k2
    by_cases h3 : pfa P G = 0
    · refine vnf (by rw [h3]; rfl) ?_
      refine ⟨Or.inr rfl, k1, ?_⟩
      have : 0 < ptl P := by omega
      simp [psh, h3, this]
    · refine vnt (nI_ne0 (by omega) (by omega)) ?_
      refine ⟨Or.inl rfl, k1, ?_⟩
      simp [psh, h3]
end
section
/-! Show: cues done, the stage lit, what is shown -/
/-- flickers: the steps told, one behind the other -/
def fk (σ : qw_M) (n : Nat) (a : Nat → Nat) : Prop := n ≤ 8 ∧ (σ 19).1 1 = nI n ∧ ∀ i, i < n → a i < 20 ∧ (σ 20).1 i = nI (a i)
theorem fk.fr {σ σ' : qw_M} {n : Nat} {a : Nat → Nat} {l : List Nat} (h : fk σ n a) (hf : fr l σ σ') (h0 : 19 ∉ l) (h1 : 20 ∉ l) : fk σ' n a := by
  unfold fk
  rw [hf 19 h0, hf 20 h1]
  exact h
/-- whether a step is one of the first n -/
def isx (a : Nat → Nat) (s : Nat) : Nat → Bool
  | 0 => false
  | n + 1 => isx a s n || decide (a n = s)
theorem isx_false {a : Nat → Nat} {s : Nat} : ∀ {n : Nat}, isx a s n = false ↔ ∀ i, i < n → a i ≠ s
  | 0 => ⟨fun _ i h => absurd h (Nat.not_lt_zero i), fun _ => rfl⟩
  | n + 1 => by
    have ih := isx_false (a := a) (s := s) (n := n)
    constructor
    · intro h i hi
      have h : (isx a s n || decide (a n = s)) = false := h
      rw [Bool.or_eq_false_iff] at h
      rcases Nat.lt_or_ge i n with q | q
      · exact ih.mp h.1 i q
      · have : i = n := by omega
        subst this
        exact of_decide_eq_false h.2
    · intro h
      show (isx a s n || decide (a n = s)) = false
      rw [ih.mpr (fun i hi => h i (by omega)), decide_eq_false (h n (by omega))]
      rfl
theorem isx_true {a : Nat → Nat} {s n : Nat} {i : Nat} (hi : i < n) (h : a i = s) : isx a s n = true := by
  cases hb : isx a s n with
  | true => rfl
  | false => exact absurd h (isx_false.mp hb i hi)
theorem m_isOut {σ : qw_M} {n : Nat} {a : Nat → Nat} (hk : fk σ n a) {s : Nat} (hs : s < 20) : qw_Mt qw_tw wC my_X7_isOut [.ref 7, .int (nI s)] σ (fun r σ' => σ' = σ ∧ r = some (.int (nI (isx a s n).toNat))) := by
  obtain ⟨hn, h1, h2⟩ := hk
  refine mt_X7_isOut rfl ?_
  have loop : ∀ (m j : Nat) (x : Int32), j + m = n → x = nI j → (∀ i, i < j → a i ≠ s) →
      E_X7_isOut (fun r σ' => σ' = σ ∧ r = some (.int (nI (isx a s n).toNat))) 2 [(0, .ref 7), (1, .int (nI s)), (2, .int x)] [] σ := by
    intro m
    induction m with
    | zero =>
      intro j x hj hx hno
      subst hx
      refine ev_X7_isOut [2] 100 ?_
      refine vt (by rw [h1]; exact nle n j (by omega) (by omega)) ?_
      refine ⟨Or.inl rfl, rfl, ?_⟩
      rw [isx_false.mpr (fun i hi => hno i (by omega))]
      rfl
    | succ m ih =>
      intro j x hj hx hno
      subst hx
      refine ev_X7_isOut [2] 100 ?_
      refine vf (by rw [h1]; exact nnle n j (by omega) (by omega)) ?_
      refine ⟨trivial, _, m_item (k := 19) (N := 8) (by unfold qr_row; omega) h1 hn _, fun x σ' ⟨k1, k2⟩ => ?_⟩
      have k1 := k1.symm
      subst k1
      rcases k2 with ⟨i, hi, e, k2⟩ | ⟨k2, -⟩
      · have : j = i := nI_i (by omega) (by omega) e
        subst this
        cases k2
        have h3 := (h2 j hi)
        by_cases c : a j = s
        · refine vnf (by rw [show (19 + 1) = 20 from rfl, h3.2, c]) ?_
          refine ⟨Or.inr rfl, rfl, ?_⟩
          rw [isx_true hi c]
          rfl
        · refine vnt (by rw [show (19 + 1) = 20 from rfl, h3.2]; exact nne (a j) s c (by omega) (by omega)) ?_
          exact ih (j + 1) _ (by omega) (nI_add j 1) (fun i hi => by
            by_cases e : i = j
            · rw [e]; exact c
            · exact hno i (by omega))
      · exact absurd rfl (k2 j (by omega))
  refine ev_X7_isOut [2] 100 ?_
  exact loop n 0 _ (by omega) rfl (fun i h => absurd h (Nat.not_lt_zero i))
/-- a cue done: depths and places behind it -/
def stp (F : Nat) (q : Option (Nat × Nat)) (x : (Nat → Nat) × (Nat → Nat)) : (Nat → Nat) × (Nat → Nat) := match q with
  | some z => if z.1 < F then (va_up x.1 z.1 (mvD z.2 (x.1 z.1)), va_up x.2 z.1 (mvP z.2 (x.2 z.1))) else x
  | none => x
/-- the first steps' cues done, but some -/
def gos (F : Nat) (C : CC) (skip : Nat → Bool) (x : (Nat → Nat) × (Nat → Nat)) : Nat → (Nat → Nat) × (Nat → Nat)
  | 0 => x
  | s + 1 => if skip s then gos F C skip x s else stp F (C s) (gos F C skip x s)
theorem m_moveC {T : TT} {σ : qw_M} (hT : tr σ T) {x : (Nat → Nat) × (Nat → Nat)} {q : Nat → Nat} (hs : sg σ (tF T) x.1 x.2 q) {C : CC} (hC : ∀ s f w, C s = some (f, w) → f < 8 ∧ w < 4) (s : Nat) : qw_Mt qw_tw wC my_X8_move [.ref 21, .int (cuf C s), .int (cuw C s)] σ (fun _ σ' => fr [23, 24] σ σ' ∧ sg σ' (tF T) (stp (tF T) (C s) x).1 (stp (tF T) (C s) x).2 q) := by
  have hF := hT.1.1
  cases h : C s with
  | none =>
    rw [cuf_none h]
    refine mt_mono (m_move0 hT (fun f hf => ?_)) (fun r σ' k => ?_)
    · exact fun e => nI_m1 (a := f) (by omega) e.symm
    · subst k
      exact ⟨fr.rf, hs⟩
  | some z =>
    obtain ⟨h8, h4⟩ := hC s z.1 z.2 h
    have e1 : cuf C s = nI z.1 := by simp only [cuf, h]
    have e2 : cuw C s = nI z.2 := by simp only [cuw, h]
    rw [e1, e2]
    by_cases hz : z.1 < tF T
    · refine mt_mono (m_move hT hs hz h4) (fun r σ' ⟨k1, k2⟩ => ⟨k1, ?_⟩)
      simp only [stp, hz, if_true]
      exact k2
    · refine mt_mono (m_move0 hT (fun f hf => ?_)) (fun r σ' k => ?_)
      · exact fun e => hz (by have := nI_i (a := z.1) (b := f) (by omega) (by omega) e; omega)
      · subst k
        simp only [stp, hz, if_false]
        exact ⟨fr.rf, hs⟩
theorem m_doCues {T : TT} {σ : qw_M} (hT : tr σ T) {x : (Nat → Nat) × (Nat → Nat)} {q : Nat → Nat} (hs : sg σ (tF T) x.1 x.2 q) {C : CC} (hC : cu σ 14 C) {last : Nat} (hl : last < 20) (wo : Int32) : qw_Mt qw_tw wC my_X7_doCues [.ref 7, .int (nI last), .int wo] σ (fun _ σ' => fr [23, 24] σ σ' ∧ sg σ' (tF T) (gos (tF T) C (bt wo) x (last + 1)).1 (gos (tF T) C (bt wo) x (last + 1)).2 q) := by
  refine mt_X7_doCues rfl ?_
  have loop : ∀ (n j : Nat) (y : Int32) (σ' : qw_M), j + n = last + 1 → y = nI j → fr [23, 24] σ σ' → sg σ' (tF T) (gos (tF T) C (bt wo) x j).1 (gos (tF T) C (bt wo) x j).2 q →
      E_X7_doCues (fun _ σ' => fr [23, 24] σ σ' ∧ sg σ' (tF T) (gos (tF T) C (bt wo) x (last + 1)).1 (gos (tF T) C (bt wo) x (last + 1)).2 q) 2 [(0, .ref 7), (1, .int (nI last)), (2, .int wo), (3, .int y)] [] σ' := by
    intro n
    induction n with
    | zero =>
      intro j y σ' hj hy hf hg
      subst hy
      have : j = last + 1 := by omega
      subst this
      refine ev_X7_doCues [2] 100 ?_
      refine vt (nlt last (last + 1) (by omega) (by omega)) ?_
      exact ⟨hf, hg⟩
    | succ n ih =>
      intro j y σ' hj hy hf hg
      subst hy
      refine ev_X7_doCues [2] 100 ?_
      refine vf (nnlt last j (by omega) (by omega)) ?_
      refine vf (nnle 20 j (by omega) (by omega)) ?_
      have ew : (wo >>> (nI j &&& 31)) &&& nI 1 = nI (bt wo j).toNat := bt_s (by omega)
      refine vnb (fun a => ?_) (fun a => ?_)
      · rw [ew, rb] at a
        have a : bt wo j = true := by simpa using a
        refine ih (j + 1) _ _ (by omega) (nI_add j 1) hf ?_
        simp only [gos, a, if_true]
        exact hg
      · rw [ew, rb] at a
        have hT' := hT.fr hf (by intro k _ _; simp; omega)
        have hC' := hC.fr hf (by decide) (by decide) (by decide)
        refine ⟨trivial, _, m_figureOf (Or.inl rfl) hC' (s := j) (by omega), fun y1 σ1 ⟨k1, k2⟩ => ?_⟩
        cases k2
        have k1 := k1.symm
        subst k1
        refine ⟨trivial, _, m_whitherOf (Or.inl rfl) hC' (s := j) (by omega), fun y2 σ2 ⟨k1, k2⟩ => ?_⟩
        cases k2
        have k1 := k1.symm
        subst k1
        refine ⟨trivial, _, m_moveC hT' hg hC.1 j, fun σ3 ⟨k1, k2⟩ => ?_⟩
        refine ih (j + 1) _ _ (by omega) (nI_add j 1) (hf.tr k1) ?_
        simp only [gos, a]
        exact k2
  refine ev_X7_doCues [2] 100 ?_
  exact loop (last + 1) 0 _ _ (by omega) rfl fr.rf hs
/-- all that is told, for the stage -/
def sh (σ : qw_M) (T : TT) (C : CC) (P : Nat → Option Nat) (n : Nat) (a : Nat → Nat) (L : Nat) : Prop := tr σ T ∧ cu σ 14 C ∧ pic σ P ∧ fk σ n a ∧ (L < 32 ∧ (σ 7).1 5 = nI L) ∧ ry σ ∧ ca σ T
/-- cells of the stage that anything may leave changed -/
def scr : List Nat := [21, 23, 24, 25, 26, 27, 28]
theorem sh.fr {σ σ' : qw_M} {T : TT} {C : CC} {P : Nat → Option Nat} {n : Nat} {a : Nat → Nat} {L : Nat} {l : List Nat} (h : sh σ T C P n a L) (hf : fr l σ σ') (hl : ∀ k, 7 ≤ k → k ≤ 22 → k ≠ 21 → k ∉ l) (hc : ca σ' T) : sh σ' T C P n a L := by
  obtain ⟨h1, h2, h3, h4, h5, h6, h7⟩ := h
  exact ⟨h1.fr hf (fun k a b => hl k (by omega) (by omega) (by omega)), h2.fr hf (hl 14 (by omega) (by omega) (by omega)) (hl 15 (by omega) (by omega) (by omega)) (hl 16 (by omega) (by omega) (by omega)), h3.fr hf (hl 17 (by omega) (by omega) (by omega)) (hl 18 (by omega) (by omega) (by omega)), h4.fr hf (hl 19 (by omega) (by omega) (by omega)) (hl 20 (by omega) (by omega) (by omega)), by rw [hf 7 (hl 7 (by omega) (by omega) (by omega))]; exact h5, h6.fr hf (hl 22 (by omega) (by omega) (by omega)), hc⟩
theorem scr_ok : ∀ k, 7 ≤ k → k ≤ 22 → k ≠ 21 → k ∉ scr := by
  intro k h1 h2 h3
  unfold scr
  simp
  omega
/-- told: where figures are at first -/
def tdp (T : TT) : (Nat → Nat) × (Nat → Nat) := (tD T, tP T)
theorem m_open {σ : qw_M} {T : TT} {C : CC} {P : Nat → Option Nat} {n : Nat} {a : Nat → Nat} {L : Nat} (h : sh σ T C P n a L) : qw_Mt qw_tw wC my_X7_open [.ref 7] σ (fun _ σ' => fr scr σ σ' ∧ sh σ' T C P n a L ∧ sl σ' L ∧ sg σ' (tF T) (tD T) (tP T) (tC T)) := by
  refine mt_X7_open rfl (ev_X7_open [] 100 ?_)
  refine ⟨trivial, fun _ σ' => fr [21, 23, 24, 25] σ σ' ∧ sl σ' L ∧ sg σ' (tF T) (tD T) (tP T) (tC T), ?_, fun σ' ⟨k1, k2, k3⟩ => ?_⟩
  · show qw_Mt qw_tw wC my_X8_start [.ref 21, .int ((σ 7).1 5)] σ _
    rw [h.2.2.2.2.1.2]
    exact m_start h.1 h.2.2.2.2.1.1
  · have k1' : fr scr σ σ' := k1.mo (by unfold scr; simp)
    exact ⟨k1', h.fr k1' scr_ok (h.2.2.2.2.2.2.fr k1 (by decide)), k2, k3⟩
theorem m_goTo {σ : qw_M} {T : TT} {C : CC} {P : Nat → Option Nat} {n : Nat} {a : Nat → Nat} {L : Nat} (h : sh σ T C P n a L) {s : Nat} (hs : s < 20) : qw_Mt qw_tw wC my_X7_goTo [.ref 7, .int (nI s)] σ (fun _ σ' => fr scr σ σ' ∧ sh σ' T C P n a L ∧ sl σ' L ∧ sg σ' (tF T) (gos (tF T) C (fun _ => false) (tdp T) (s + 1)).1 (gos (tF T) C (fun _ => false) (tdp T) (s + 1)).2 (tC T)) := by
  have e0 : bt (nI 0) = fun _ => false := by
    funext i
    exact b_0 i
  refine mt_X7_goTo rfl (ev_X7_goTo [] 100 ?_)
  refine ⟨trivial, fun _ σ' => fr [21, 23, 24, 25] σ σ' ∧ sl σ' L ∧ sg σ' (tF T) (tD T) (tP T) (tC T), ?_, fun σ' ⟨k1, k2, k3⟩ => ?_⟩
  · show qw_Mt qw_tw wC my_X8_start [.ref 21, .int ((σ 7).1 5)] σ _
    rw [h.2.2.2.2.1.2]
    exact m_start h.1 h.2.2.2.2.1.1
  · have k1' : fr scr σ σ' := k1.mo (by unfold scr; simp)
    have h' := h.fr k1' scr_ok (h.2.2.2.2.2.2.fr k1 (by decide))
    refine ⟨trivial, _, m_doCues h'.1 (x := tdp T) k3 h'.2.1 hs (nI 0), fun σ2 ⟨g1, g2⟩ => ?_⟩
    rw [e0] at g2
    have g1' : fr scr σ' σ2 := g1.mo (by unfold scr; simp)
    exact ⟨k1'.tr g1', h'.fr g1' scr_ok (h'.2.2.2.2.2.2.fr g1 (by decide)), k2.fr g1 (by decide), g2⟩
/-- the light of a cell in a step -/
def lgt (T : TT) (C : CC) (skip : Nat → Bool) (n : Nat) (a : Nat → Nat) (L : Nat) (x : (Nat → Nat) × (Nat → Nat)) (q : Nat → Nat) (wo : Nat → Bool) (s c : Nat) : Nat :=
  if isx a s n then 0 else lit (tF T) (cv T L (gos (tF T) C skip x (s + 1)).1 (gos (tF T) C skip x (s + 1)).2) q wo 8 c
theorem m_shineS {σ : qw_M} {T : TT} {C : CC} {P : Nat → Option Nat} {n : Nat} {a : Nat → Nat} {L : Nat} (h : sh σ T C P n a L) {d p q : Nat → Nat} (hs : sg σ (tF T) d p q) {L2 : Nat} (hL : sl σ L2) (fl : Bool) (wo : Int32) : qw_Mt qw_tw wC my_X8_shine [.ref 21, .int (nI fl.toNat), .int wo] σ (fun _ σ' => fr scr σ σ' ∧ sh σ' T C P n a L ∧ sl σ' L2 ∧ sg σ' (tF T) d p q ∧ gl σ' 28 (fun c => if fl then 0 else lit (tF T) (cv T L2 d p) q (bt wo) 8 c)) :=
  mt_mono (m_shine h.1 h.2.2.2.2.2.1 h.2.2.2.2.2.2 hs hL fl wo) (fun r σ' ⟨k1, k2, k3⟩ => by
    have k1' : fr scr σ σ' := k1.mo (by unfold scr; simp)
    exact ⟨k1', h.fr k1' scr_ok k2, hL.fr k1 (by decide), hs.fr k1 (by intro k _ _; simp; omega), k3⟩)
theorem m_lightUp {σ : qw_M} {T : TT} {C : CC} {P : Nat → Option Nat} {n : Nat} {a : Nat → Nat} {L : Nat} (h : sh σ T C P n a L) {s : Nat} (hs : s < 20) : qw_Mt qw_tw wC my_X7_lightUp [.ref 7, .int (nI s)] σ (fun _ σ' => fr scr σ σ' ∧ sh σ' T C P n a L ∧ sl σ' L ∧ sg σ' (tF T) (gos (tF T) C (fun _ => false) (tdp T) (s + 1)).1 (gos (tF T) C (fun _ => false) (tdp T) (s + 1)).2 (tC T) ∧ gl σ' 28 (lgt T C (fun _ => false) n a L (tdp T) (tC T) (fun _ => false) s)) := by
  have e0 : bt (nI 0) = fun _ => false := by
    funext i
    exact b_0 i
  refine mt_X7_lightUp rfl (ev_X7_lightUp [] 100 ?_)
  refine ⟨trivial, fun _ σ' => fr [21, 23, 24, 25] σ σ' ∧ sl σ' L ∧ sg σ' (tF T) (tD T) (tP T) (tC T), ?_, fun σ' ⟨k1, k2, k3⟩ => ?_⟩
  · show qw_Mt qw_tw wC my_X8_start [.ref 21, .int ((σ 7).1 5)] σ _
    rw [h.2.2.2.2.1.2]
    exact m_start h.1 h.2.2.2.2.1.1
  · have k1' : fr scr σ σ' := k1.mo (by unfold scr; simp)
    have h' := h.fr k1' scr_ok (h.2.2.2.2.2.2.fr k1 (by decide))
    refine ⟨trivial, _, m_doCues h'.1 (x := tdp T) k3 h'.2.1 hs (nI 0), fun σ2 ⟨g1, g2⟩ => ?_⟩
    rw [e0] at g2
    have g1' : fr scr σ' σ2 := g1.mo (by unfold scr; simp)
    have h2 := h'.fr g1' scr_ok (h'.2.2.2.2.2.2.fr g1 (by decide))
    refine ⟨trivial, _, m_isOut h2.2.2.2.1 hs, fun y σ3 _ ⟨f1, f2⟩ => ?_⟩
    cases f2
    have f1 := f1.symm
    subst f1
    refine ⟨trivial, _, m_shineS h2 g2 (k2.fr g1 (by decide)) (isx a s n) (nI 0), fun σ4 ⟨e1, e2, e3, e4, e5⟩ => ?_⟩
    rw [e0] at e5
    exact ⟨(k1'.tr g1').tr e1, e2, e3, e4, e5⟩
theorem m_falseNow {σ : qw_M} {P : Nat → Option Nat} (hP : pic σ P) {G : Nat → Nat} (hG : gl σ 28 G) : qw_Mt qw_tw wC my_X7_falseNow [.ref 7] σ (fun r σ' => σ' = σ ∧ r = some (.int (nI (pfa P G)))) := by
  refine mt_X7_falseNow rfl (ev_X7_falseNow [] 100 ?_)
  exact ⟨trivial, _, m_falseBy hP hG, fun x σ' k => k⟩
theorem m_isShownNow {σ : qw_M} {P : Nat → Option Nat} (hP : pic σ P) {G : Nat → Nat} (hG : gl σ 28 G) : qw_Mt qw_tw wC my_X7_isShownNow [.ref 7] σ (fun r σ' => σ' = σ ∧ r = some (.int (nI (psh P G).toNat))) := by
  refine mt_X7_isShownNow rfl (ev_X7_isShownNow [] 100 ?_)
  exact ⟨trivial, _, m_isShownBy hP hG, fun x σ' h k => ⟨h, k⟩⟩
end
