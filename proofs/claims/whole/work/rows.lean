section
/-! CORE 1: memory by cell numbers, instructions as conditions ('what must hold for the run to go on'), calls as judgements. Written for this claim. -/
abbrev qw_R : Type := (Nat → Int32) × (Nat → Int64)
abbrev qw_M : Type := Nat → qw_R
abbrev qw_E : Type := (Nat × Nat) ⊕ ((Nat × Nat × (Nat → Option Nat)) ⊕ (Nat × List Value))
abbrev qw_L : Type := List (Nat × Value)
/-- a world: kinds, how many cells may be written, what each cell is by its row, how many array types, these, how many cells in all, rows of those that are only read, statics, which fields are numbers (1 int, 2 long) -/
abbrev qw_Wd : Type := List vw_C × Nat × (Nat → qw_R → qw_E) × Nat × (Nat → FieldType) × Nat × (Nat → qw_R) × List (String × String × String × Value) × (Nat → Nat → Nat)
abbrev qw_cl (w : qw_Wd) : List vw_C := w.1
abbrev qw_n (w : qw_Wd) : Nat := w.2.1
abbrev qw_cf (w : qw_Wd) : Nat → qw_R → qw_E := w.2.2.1
abbrev qw_nT (w : qw_Wd) : Nat := w.2.2.2.1
abbrev qw_ty (w : qw_Wd) : Nat → FieldType := w.2.2.2.2.1
abbrev qw_nR (w : qw_Wd) : Nat := w.2.2.2.2.2.1
abbrev qw_ro (w : qw_Wd) : Nat → qw_R := w.2.2.2.2.2.2.1
abbrev qw_sta (w : qw_Wd) : List (String × String × String × Value) := w.2.2.2.2.2.2.2.1
abbrev qw_kd (w : qw_Wd) : Nat → Nat → Nat := w.2.2.2.2.2.2.2.2
/-- where the cells are -/
abbrev qw_Ad : Type := va_G × (Nat → Nat) × (Nat → ClassId)
/-- a method: name, bytes, locals, answer, parameters, frames and words below it -/
abbrev qw_Y : Type := MethodName × ByteArray × Nat × Option FieldType × Nat × Nat × Nat
abbrev qw_yn (Y : qw_Y) : MethodName := Y.1
abbrev qw_yb (Y : qw_Y) : ByteArray := Y.2.1
abbrev qw_ym (Y : qw_Y) : Nat := Y.2.2.1
abbrev qw_yr (Y : qw_Y) : Option FieldType := Y.2.2.2.1
abbrev qw_yp (Y : qw_Y) : Nat := Y.2.2.2.2.1
abbrev qw_yf (Y : qw_Y) : Nat := Y.2.2.2.2.2.1
abbrev qw_yl (Y : qw_Y) : Nat := Y.2.2.2.2.2.2
abbrev qw_yc (Y : qw_Y) : Cond := .code (qw_yn Y) (qw_yb Y) (qw_ym Y) (qw_yr Y)
abbrev qw_rm (Y : qw_Y) : Room := { frames := qw_yf Y, cells := 0, slots := 0, locals := qw_yl Y }
/-- a constant pool: its name, fields (kind, place), calls (receiver, method), ints, longs, texts (cells), statics (places), arraycopy -/
abbrev qw_K : Type := String × List (Nat × Nat × Nat) × List (Nat × Option Nat × qw_Y) × List (Nat × Int32) × List (Nat × Int64) × List (Nat × Nat) × List (Nat × Nat) × Nat
abbrev qw_kn (K : qw_K) : String := K.1
abbrev qw_kf (K : qw_K) : List (Nat × Nat × Nat) := K.2.1
abbrev qw_kc (K : qw_K) : List (Nat × Option Nat × qw_Y) := K.2.2.1
abbrev qw_ki (K : qw_K) : List (Nat × Int32) := K.2.2.2.1
abbrev qw_kl (K : qw_K) : List (Nat × Int64) := K.2.2.2.2.1
abbrev qw_ks (K : qw_K) : List (Nat × Nat) := K.2.2.2.2.2.1
abbrev qw_kg (K : qw_K) : List (Nat × Nat) := K.2.2.2.2.2.2.1
abbrev qw_ka (K : qw_K) : Nat := K.2.2.2.2.2.2.2
def qw_rv (a : Nat → Nat) (v : Value) : Value := match v with
  | .ref k => .ref (a k)
  | .int x => .int x
  | .long x => .long x
  | v => v
def qw_re (g : qw_Ad) (r : qw_R) (e : qw_E) : va_E := match e with
  | .inl q => .inl (g.2.2 q.1, q.2, .inl r.1)
  | .inr (.inl q) => .inl (g.2.2 q.1, q.2.1, .inr (.inr (.inr (.inr (fun i => (q.2.2 i).map g.2.1)))))
  | .inr (.inr q) => .inr (q.1, q.2.map (qw_rv g.2.1))
/-- the row of a cell: of one that is only read it is the world's own -/
def qw_row (w : qw_Wd) (σ : qw_M) (k : Nat) : qw_R := match Nat.blt k (qw_n w) with
  | true => σ k
  | false => qw_ro w k
def qw_ws (w : qw_Wd) (g : qw_Ad) (σ : qw_M) : va_W := (List.range (qw_n w)).map (fun k => (g.2.1 k, qw_re g (σ k) (qw_cf w k (σ k))))
def qw_wr (w : qw_Wd) (g : qw_Ad) : va_W := (List.range (qw_nR w)).map (fun k => (g.2.1 (qw_n w + k), qw_re g (qw_ro w (qw_n w + k)) (qw_cf w (qw_n w + k) (qw_ro w (qw_n w + k)))))
def qw_ts (w : qw_Wd) (g : qw_Ad) : List (ClassId × FieldType) := (List.range (qw_nT w)).map (fun t => (g.2.2 t, qw_ty w t))
def qw_A (w : qw_Wd) (g : qw_Ad) : Nat → Prop := fun q => ∃ k, k < qw_n w ∧ q = g.2.1 k
def qw_I (w : qw_Wd) (g : qw_Ad) : Prop := ∀ i j, i < qw_n w → j < qw_n w → g.2.1 i = g.2.1 j → i = j
def qw_env (w : qw_Wd) (g : qw_Ad) (U : State) (H : Heap) : Prop := va_P g.1 (qw_cl w) (qw_wr w g) H ∧ (∀ k, k < qw_nR w → ¬ qw_A w g (g.2.1 (qw_n w + k))) ∧ ∀ q ∈ qw_sta w, va_Z q.1 q.2.1 q.2.2.1 q.2.2.2 (qw_A w g) U H
def qw_P (w : qw_Wd) (g : qw_Ad) (σ : qw_M) (H : Heap) : Prop := va_P g.1 (qw_cl w) (qw_ws w g σ) H
def qw_up (σ : qw_M) (k : Nat) (r : qw_R) : qw_M := fun j => if j = k then r else σ j
/-- the int at place j of cell k becomes x -/
def qw_pi (σ : qw_M) (k j : Nat) (x : Int32) : qw_M := qw_up σ k (upd (σ k).1 j x, (σ k).2)
def qw_pl (σ : qw_M) (k j : Nat) (x : Int64) : qw_M := qw_up σ k ((σ k).1, vp_updL (σ k).2 j x)
/-- a part of an array comes to another -/
def qw_pc (σ : qw_M) (k : Nat) (f : Nat → Int32) (sp dp n : Nat) : qw_M := qw_up σ k (va_cpy f (σ k).1 sp dp n, (σ k).2)
def qw_sh (t : Option FieldType) (r : Option Value) : Prop := match t with
  | none => r = none
  | some .int => ∃ x : Int32, r = some (.int x)
  | some .boolean => r = some (.int 0) ∨ r = some (.int 1)
  | some .long => ∃ x : Int64, r = some (.long x)
  | some (.object _) => r = some .null ∨ ∃ k : Nat, r = some (.ref k)
  | some _ => ∃ x : Int32, r = some (.int x)
def qw_Z (w : qw_Wd) (g : qw_Ad) (Y : qw_Y) (Q : Option Value → qw_M → Prop) : Array Value → State → Outcome → State → Prop := fun _ st oc t =>
  (∃ (r : Option Value) (σ' : qw_M), oc = .returned (r.map (qw_rv g.2.1)) ∧ qw_sh (qw_yr Y) r ∧ Q r σ' ∧ qw_P w g σ' t.heap) ∧ va_F (qw_A w g) st t
/-- THE JUDGEMENT: called with these in this memory, the method returns, and answer and memory are as Q says -/
def qw_Mt (tw : List Cond) (w : qw_Wd) (Y : qw_Y) (av : List Value) (σ : qw_M) (Q : Option Value → qw_M → Prop) : Prop :=
  ∀ (l : Launch) (g : qw_Ad), qw_I w g → Met l (qw_yn Y) (qw_yc Y :: tw) (qw_rm Y) (va_Pc (av.map (qw_rv g.2.1)) (fun U => qw_P w g σ U.heap ∧ va_K g.1 (qw_cl w) (qw_ts w g) U ∧ qw_env w g U U.heap)) (qw_Z w g Y Q) 0 0 (qw_A w g)
def qw_lk {α : Type} (l : List (Nat × α)) (k : Nat) : Option α := match l with
  | [] => none
  | q :: l => match Nat.beq q.1 k with
    | true => some q.2
    | false => qw_lk l k
def qw_i1 (st : List Value) (f : Int32 → List Value → Prop) : Prop := match st with
  | .int x :: r => f x r
  | _ => False
def qw_i2 (st : List Value) (f : Int32 → Int32 → List Value → Prop) : Prop := match st with
  | .int y :: .int x :: r => f x y r
  | _ => False
def qw_l1 (st : List Value) (f : Int64 → List Value → Prop) : Prop := match st with
  | .long x :: r => f x r
  | _ => False
def qw_l2 (st : List Value) (f : Int64 → Int64 → List Value → Prop) : Prop := match st with
  | .long y :: .long x :: r => f x y r
  | _ => False
def qw_o1 (st : List Value) (f : Nat → List Value → Prop) : Prop := match st with
  | .ref o :: r => f o r
  | _ => False
def qw_sins (p : Nat × Value) (l : qw_L) : qw_L := match l with
  | [] => [p]
  | q :: l => match Nat.blt q.1 p.1 with
    | true => q :: qw_sins p l
    | false => p :: q :: l
def qw_s1 (ls : qw_L) (i : Nat) (v : Value) : qw_L := qw_sins (i, v) (ls.filter (fun q => !(q.1 == i) && !(q.1 + 1 == i && q.2.category == 2)))
def qw_s2 (ls : qw_L) (i : Nat) (v : Value) : qw_L := qw_sins (i, v) (ls.filter (fun q => !(q.1 == i) && (!(q.1 == i + 1) && !(q.1 + 1 == i && q.2.category == 2))))
def qw_lm (a : Nat → Nat) (ls : qw_L) : List (Nat × Value) := ls.map (fun q => (q.1, qw_rv a q.2))
/-- a branch's target -/
def qw_tg (pc : Nat) (off : Int) (f : Nat → Prop) : Prop := match (pc : Int) + off with
  | .ofNat t => f t
  | .negSucc _ => False
def qw_br (c a b : Prop) : Prop := (c → a) ∧ (¬ c → b)
def qw_nb (c a b : Prop) : Prop := (¬ c → a) ∧ (c → b)
def qw_sw (pc : Nat) (offs : List Int) (x v : Int) (f : Nat → Prop) : Prop := match offs with
  | [] => True
  | off :: l => (x = v → qw_tg pc off f) ∧ qw_sw pc l x (v + 1) f
def qw_isw (i : Instr) : Bool := match i with
  | .tableswitch .. => true
  | _ => false
def qw_len (i : Instr) : Nat := match i with
  | .bipush _ | .iload _ | .lload _ | .aload _ | .istore _ | .lstore _ | .astore _ | .ldc _ => 2
  | .sipush _ | .getfield _ | .putfield _ | .getstatic _ | .if_icmp _ _ | .ifCond _ _ | .ifnull _ | .ifnonnull _ | .goto _ | .iinc _ _ | .invokevirtual _ | .invokestatic _ | .invokespecial _ | .ldc_w _ | .ldc2_w _ => 3
  | _ => 1
def qw_dec (cc : ByteArray) (pc : Nat) (i : Instr) : Prop := ∃ n, decode cc pc = .ok (i, n) ∧ (n = qw_len i ∨ qw_isw i = true)
def qw_okb (cc : ByteArray) (q : Nat × Instr) : Bool := match decode cc q.1 with
  | .ok (j, n) => decide (q.2 = j) && (Nat.beq n (qw_len q.2) || qw_isw q.2)
  | .error _ => false
/-- what must hold at a call: the room, and the callee's judgement -/
def qw_cal (tw : List Cond) (w : qw_Wd) (Y Yc : qw_Y) (av rest : List Value) (σ : qw_M) (f : List Value → qw_M → Prop) : Prop :=
  (match Nat.ble (rest.map fun v => v.category).sum 8, Nat.ble (qw_yf Yc + 1) (qw_yf Y), Nat.ble (8 + (qw_ym Yc + 11) + qw_yl Yc) (qw_yl Y) with
   | true, true, true => True
   | _, _, _ => False) ∧
  ∃ Q : Option Value → qw_M → Prop, qw_Mt tw w Yc av σ Q ∧ match qw_yr Yc with
    | none => ∀ σ', Q none σ' → f rest σ'
    | some .int => ∀ (x : Int32) σ', Q (some (.int x)) σ' → f (.int x :: rest) σ'
    | some .boolean => ∀ (x : Int32) σ', (x = 0 ∨ x = 1) → Q (some (.int x)) σ' → f (.int x :: rest) σ'
    | some .long => ∀ (x : Int64) σ', Q (some (.long x)) σ' → f (.long x :: rest) σ'
    | some (.object _) => (∀ σ', Q (some .null) σ' → f (.null :: rest) σ') ∧ ∀ (k : Nat) σ', Q (some (.ref k)) σ' → f (.ref k :: rest) σ'
    | some _ => ∀ (x : Int32) σ', Q (some (.int x)) σ' → f (.int x :: rest) σ'
/-- ONE INSTRUCTION: what must hold, and with what it goes on (k) or ends (Q) -/
def qw_F (tw : List Cond) (w : qw_Wd) (K : qw_K) (Y : qw_Y) (Q : Option Value → qw_M → Prop) (k : Nat → qw_L → List Value → qw_M → Prop) (i : Instr) (pc : Nat) (ls : qw_L) (st : List Value) (σ : qw_M) : Prop := match i with
  | .iconst n => k (pc + 1) ls (.int (Int32.ofInt n) :: st) σ
  | .bipush n => k (pc + 2) ls (.int (Int8.ofInt n).toInt32 :: st) σ
  | .sipush n => k (pc + 3) ls (.int (Int16.ofInt n).toInt32 :: st) σ
  | .lconst n => k (pc + 1) ls (.long (Int64.ofNat (n : Nat)) :: st) σ
  | .aconst_null => k (pc + 1) ls (.null :: st) σ
  | .ldc j => match qw_lk (qw_ki K) j with
    | some v => k (pc + 2) ls (.int v :: st) σ
    | none => False
  | .ldc_w j => match qw_lk (qw_ki K) j with
    | some v => k (pc + 3) ls (.int v :: st) σ
    | none => False
  | .ldc2_w j => match qw_lk (qw_kl K) j with
    | some v => k (pc + 3) ls (.long v :: st) σ
    | none => False
  | .iload_n j => match qw_lk ls (j : Nat) with
    | some (.int x) => k (pc + 1) ls (.int x :: st) σ
    | _ => False
  | .iload j => match qw_lk ls j with
    | some (.int x) => k (pc + 2) ls (.int x :: st) σ
    | _ => False
  | .lload_n j => match qw_lk ls (j : Nat) with
    | some (.long x) => k (pc + 1) ls (.long x :: st) σ
    | _ => False
  | .lload j => match qw_lk ls j with
    | some (.long x) => k (pc + 2) ls (.long x :: st) σ
    | _ => False
  | .aload_n j => match qw_lk ls (j : Nat) with
    | some (.ref x) => k (pc + 1) ls (.ref x :: st) σ
    | some .null => k (pc + 1) ls (.null :: st) σ
    | _ => False
  | .aload j => match qw_lk ls j with
    | some (.ref x) => k (pc + 2) ls (.ref x :: st) σ
    | some .null => k (pc + 2) ls (.null :: st) σ
    | _ => False
  | .istore_n j => match Nat.blt (j : Nat) (qw_ym Y) with
    | true => qw_i1 st fun x r => k (pc + 1) (qw_s1 ls (j : Nat) (.int x)) r σ
    | false => False
  | .istore j => match Nat.blt j (qw_ym Y) with
    | true => qw_i1 st fun x r => k (pc + 2) (qw_s1 ls j (.int x)) r σ
    | false => False
  | .lstore_n j => match Nat.blt ((j : Nat) + 1) (qw_ym Y) with
    | true => qw_l1 st fun x r => k (pc + 1) (qw_s2 ls (j : Nat) (.long x)) r σ
    | false => False
  | .lstore j => match Nat.blt (j + 1) (qw_ym Y) with
    | true => qw_l1 st fun x r => k (pc + 2) (qw_s2 ls j (.long x)) r σ
    | false => False
  | .astore_n j => match Nat.blt (j : Nat) (qw_ym Y), st with
    | true, .ref x :: r => k (pc + 1) (qw_s1 ls (j : Nat) (.ref x)) r σ
    | true, .null :: r => k (pc + 1) (qw_s1 ls (j : Nat) .null) r σ
    | _, _ => False
  | .astore j => match Nat.blt j (qw_ym Y), st with
    | true, .ref x :: r => k (pc + 2) (qw_s1 ls j (.ref x)) r σ
    | true, .null :: r => k (pc + 2) (qw_s1 ls j .null) r σ
    | _, _ => False
  | .iinc j n => match Nat.blt j (qw_ym Y), qw_lk ls j with
    | true, some (.int x) => k (pc + 3) (qw_s1 ls j (.int (x + Int32.ofInt n))) st σ
    | _, _ => False
  | .iadd => qw_i2 st fun x y r => k (pc + 1) ls (.int (x + y) :: r) σ
  | .isub => qw_i2 st fun x y r => k (pc + 1) ls (.int (x - y) :: r) σ
  | .imul => qw_i2 st fun x y r => k (pc + 1) ls (.int (x * y) :: r) σ
  | .idiv => qw_i2 st fun x y r => ¬ y = 0 ∧ k (pc + 1) ls (.int (x / y) :: r) σ
  | .irem => qw_i2 st fun x y r => ¬ y = 0 ∧ k (pc + 1) ls (.int (x - x / y * y) :: r) σ
  | .iand => qw_i2 st fun x y r => k (pc + 1) ls (.int (x &&& y) :: r) σ
  | .ior => qw_i2 st fun x y r => k (pc + 1) ls (.int (x ||| y) :: r) σ
  | .ixor => qw_i2 st fun x y r => k (pc + 1) ls (.int (x ^^^ y) :: r) σ
  | .ishl => qw_i2 st fun x y r => k (pc + 1) ls (.int (x <<< (y &&& 31)) :: r) σ
  | .ishr => qw_i2 st fun x y r => k (pc + 1) ls (.int (x >>> (y &&& 31)) :: r) σ
  | .iushr => qw_i2 st fun x y r => k (pc + 1) ls (.int (x.toUInt32 >>> (y.toUInt32 &&& Int32.toUInt32 31)).toInt32 :: r) σ
  | .ladd => qw_l2 st fun x y r => k (pc + 1) ls (.long (x + y) :: r) σ
  | .lsub => qw_l2 st fun x y r => k (pc + 1) ls (.long (x - y) :: r) σ
  | .lmul => qw_l2 st fun x y r => k (pc + 1) ls (.long (x * y) :: r) σ
  | .ldiv => qw_l2 st fun x y r => ¬ y = 0 ∧ k (pc + 1) ls (.long (x / y) :: r) σ
  | .lrem => qw_l2 st fun x y r => ¬ y = 0 ∧ k (pc + 1) ls (.long (x - x / y * y) :: r) σ
  | .lcmp => qw_l2 st fun x y r => k (pc + 1) ls (.int (lg_cmp x y) :: r) σ
  | .lshl => match st with
    | .int y :: .long x :: r => k (pc + 1) ls (.long (x <<< (y.toInt64 &&& 63)) :: r) σ
    | _ => False
  | .i2l => qw_i1 st fun x r => k (pc + 1) ls (.long x.toInt64 :: r) σ
  | .i2b => qw_i1 st fun x r => k (pc + 1) ls (.int x.toInt8.toInt32 :: r) σ
  | .i2s => qw_i1 st fun x r => k (pc + 1) ls (.int x.toInt16.toInt32 :: r) σ
  | .i2c => qw_i1 st fun x r => k (pc + 1) ls (.int (x.toUInt32 % 65536).toInt32 :: r) σ
  | .dup => match st with
    | .int x :: r => k (pc + 1) ls (.int x :: .int x :: r) σ
    | .ref x :: r => k (pc + 1) ls (.ref x :: .ref x :: r) σ
    | _ => False
  | .dup2 => match st with
    | .int y :: .int x :: r => k (pc + 1) ls (.int y :: .int x :: .int y :: .int x :: r) σ
    | .int y :: .ref x :: r => k (pc + 1) ls (.int y :: .ref x :: .int y :: .ref x :: r) σ
    | _ => False
  | .pop => match st with
    | .int _ :: r => k (pc + 1) ls r σ
    | .ref _ :: r => k (pc + 1) ls r σ
    | _ => False
  | .goto off => qw_tg pc off fun t => k t ls st σ
  | .ifCond c off => qw_tg pc off fun t => qw_i1 st fun x r => match c with
    | .eq => qw_br (x = 0) (k t ls r σ) (k (pc + 3) ls r σ)
    | .ne => qw_nb (x = 0) (k t ls r σ) (k (pc + 3) ls r σ)
    | .lt => qw_br (x < 0) (k t ls r σ) (k (pc + 3) ls r σ)
    | .ge => qw_br (0 ≤ x) (k t ls r σ) (k (pc + 3) ls r σ)
    | .gt => qw_br (0 < x) (k t ls r σ) (k (pc + 3) ls r σ)
    | .le => qw_br (x ≤ 0) (k t ls r σ) (k (pc + 3) ls r σ)
  | .if_icmp c off => qw_tg pc off fun t => qw_i2 st fun x y r => match c with
    | .eq => qw_br (x = y) (k t ls r σ) (k (pc + 3) ls r σ)
    | .ne => qw_nb (x = y) (k t ls r σ) (k (pc + 3) ls r σ)
    | .lt => qw_br (x < y) (k t ls r σ) (k (pc + 3) ls r σ)
    | .ge => qw_br (y ≤ x) (k t ls r σ) (k (pc + 3) ls r σ)
    | .gt => qw_br (y < x) (k t ls r σ) (k (pc + 3) ls r σ)
    | .le => qw_br (x ≤ y) (k t ls r σ) (k (pc + 3) ls r σ)
  | .ifnull off => qw_tg pc off fun t => match st with
    | .ref _ :: r => k (pc + 3) ls r σ
    | .null :: r => k t ls r σ
    | _ => False
  | .ifnonnull off => qw_tg pc off fun t => match st with
    | .ref _ :: r => k t ls r σ
    | .null :: r => k (pc + 3) ls r σ
    | _ => False
  | .tableswitch d lo hi offs => qw_i1 st fun x r => (x.toInt < lo ∨ hi < x.toInt → qw_tg pc d fun t => k t ls r σ) ∧ (hi < lo + offs.size ∧ qw_sw pc offs.toList x.toInt lo fun t => k t ls r σ)
  | .getstatic j => match qw_lk (qw_kg K) j with
    | some q => match (qw_sta w)[q]? with
      | some z => match z.2.2.2 with
        | .int x => k (pc + 3) ls (.int x :: st) σ
        | _ => False
      | none => False
    | none => False
  | .getfield j => qw_o1 st fun o r => match qw_lk (qw_kf K) j with
    | some q => match Nat.blt o (qw_n w + qw_nR w), qw_cf w o (qw_row w σ o) with
      | true, .inr (.inr c) => match Nat.beq c.1 q.1, c.2[q.2]? with
        | true, some v => k (pc + 3) ls (v :: r) σ
        | _, _ => False
      | _, _ => False
    | none => False
  | .putfield j => match qw_lk (qw_kf K) j with
    | none => False
    | some q => match st with
      | .int x :: .ref o :: r => match Nat.blt o (qw_n w), qw_cf w o (σ o) with
        | true, .inr (.inr c) => match Nat.beq c.1 q.1, Nat.beq (qw_kd w q.1 q.2) 1 with
          | true, true => k (pc + 3) ls r (qw_pi σ o q.2 x)
          | _, _ => False
        | _, _ => False
      | .long x :: .ref o :: r => match Nat.blt o (qw_n w), qw_cf w o (σ o) with
        | true, .inr (.inr c) => match Nat.beq c.1 q.1, Nat.beq (qw_kd w q.1 q.2) 2 with
          | true, true => k (pc + 3) ls r (qw_pl σ o q.2 x)
          | _, _ => False
        | _, _ => False
      | _ => False
  | .arraylength => qw_o1 st fun o r => match Nat.blt o (qw_n w + qw_nR w), qw_cf w o (qw_row w σ o) with
    | true, .inl q => match Nat.blt q.1 (qw_nT w) with
      | true => k (pc + 1) ls (.int (Int32.ofNat q.2) :: r) σ
      | false => False
    | _, _ => False
  | .iaload => match st with
    | .int i :: .ref o :: r => match Nat.blt o (qw_n w + qw_nR w), qw_cf w o (qw_row w σ o) with
      | true, .inl q => match Nat.beq q.1 0 with
        | true => vp_in i q.2 ∧ k (pc + 1) ls (.int ((qw_row w σ o).1 i.toNatClampNeg) :: r) σ
        | false => False
      | _, _ => False
    | _ => False
  | .baload => match st with
    | .int i :: .ref o :: r => match Nat.blt o (qw_n w + qw_nR w), qw_cf w o (qw_row w σ o) with
      | true, .inl q => match Nat.beq q.1 1 with
        | true => vp_in i q.2 ∧ k (pc + 1) ls (.int ((qw_row w σ o).1 i.toNatClampNeg) :: r) σ
        | false => False
      | _, _ => False
    | _ => False
  | .aaload => match st with
    | .int i :: .ref o :: r => match Nat.blt o (qw_n w), qw_cf w o (σ o) with
      | true, .inr (.inl q) => match Nat.beq q.1 2 with
        | true => vp_in i q.2.1 ∧ (∀ z, q.2.2 i.toNatClampNeg = some z → k (pc + 1) ls (.ref z :: r) σ) ∧ (q.2.2 i.toNatClampNeg = none → k (pc + 1) ls (.null :: r) σ)
        | false => False
      | _, _ => False
    | _ => False
  | .iastore => match st with
    | .int x :: .int i :: .ref o :: r => match Nat.blt o (qw_n w), qw_cf w o (σ o) with
      | true, .inl q => match Nat.beq q.1 0 with
        | true => vp_in i q.2 ∧ k (pc + 1) ls r (qw_pi σ o i.toNatClampNeg x)
        | false => False
      | _, _ => False
    | _ => False
  | .invokevirtual j => match qw_lk (qw_kc K) j with
    | some (some ci, Yc) => match Nat.ble (qw_yp Yc) st.length, st.drop (qw_yp Yc) with
      | true, .ref o :: r => match Nat.blt o (qw_n w + qw_nR w), qw_cf w o (qw_row w σ o) with
        | true, .inr (.inr c) => match Nat.beq c.1 ci with
          | true => qw_cal tw w Y Yc (.ref o :: (st.take (qw_yp Yc)).reverse) r σ fun st' σ' => k (pc + 3) ls st' σ'
          | false => False
        | _, _ => False
      | _, _ => False
    | _ => False
  | .invokestatic j => match qw_lk (qw_kc K) j with
    | some (none, Yc) => match Nat.ble (qw_yp Yc) st.length with
      | true => qw_cal tw w Y Yc (st.take (qw_yp Yc)).reverse (st.drop (qw_yp Yc)) σ fun st' σ' => k (pc + 3) ls st' σ'
      | false => False
    | some (some _, _) => False
    | none => match Nat.beq j (qw_ka K), st with
      | true, .int n :: .int dp :: .ref o :: .int sp :: .ref o0 :: [] => match Nat.blt o (qw_n w), Nat.blt o0 (qw_n w), qw_cf w o (σ o), qw_cf w o0 (σ o0) with
        | true, true, .inl q, .inl q0 => match Nat.beq q.1 0, Nat.beq q0.1 0 with
          | true, true => (¬ sp < 0 ∧ ¬ dp < 0 ∧ ¬ n < 0 ∧ sp.toNatClampNeg + n.toNatClampNeg ≤ q0.2 ∧ dp.toNatClampNeg + n.toNatClampNeg ≤ q.2) ∧ (1 ≤ qw_yf Y ∧ nativeFrameWords "java/lang/System" "arraycopy" 5 + 11 ≤ qw_yl Y) ∧ k (pc + 3) ls [] (qw_pc σ o (σ o0).1 sp.toNatClampNeg dp.toNatClampNeg n.toNatClampNeg)
          | _, _ => False
        | _, _, _, _ => False
      | _, _ => False
  | .return_ => match st with
    | [] => match qw_yr Y with
      | none => Q none σ
      | some _ => False
    | _ => False
  | .ireturn => match st with
    | .int x :: [] => match qw_yr Y with
      | some .int => Q (some (.int x)) σ
      | some .boolean => (x = 0 ∨ x = 1) ∧ Q (some (.int x)) σ
      | _ => False
    | _ => False
  | .lreturn => match st with
    | .long x :: [] => match qw_yr Y with
      | some .long => Q (some (.long x)) σ
      | _ => False
    | _ => False
  | .areturn => match st with
    | .ref x :: [] => match qw_yr Y with
      | some (.object _) => Q (some (.ref x)) σ
      | _ => False
    | .null :: [] => match qw_yr Y with
      | some (.object _) => Q (some .null) σ
      | _ => False
    | _ => False
  | _ => False
def qw_find (code : List (Nat × Instr)) (pc : Nat) : List (Nat × Instr) := match code with
  | [] => []
  | q :: l => match Nat.beq q.1 pc with
    | true => q :: l
    | false => qw_find l pc
def qw_has (l : List Nat) (k : Nat) : Bool := match l with
  | [] => false
  | q :: l => match Nat.beq q k with
    | true => true
    | false => qw_has l k
/-- the rest of the code, if it goes on at pc; else it is sought -/
def qw_nx (code rest : List (Nat × Instr)) (pc : Nat) : List (Nat × Instr) := match rest with
  | [] => qw_find code pc
  | q :: l => match Nat.beq q.1 pc with
    | true => q :: l
    | false => qw_find code pc
/-- n INSTRUCTIONS, up to a cut -/
def qw_run (tw : List Cond) (w : qw_Wd) (K : qw_K) (Y : qw_Y) (code : List (Nat × Instr)) (cut : List Nat) (Q : Option Value → qw_M → Prop) (P : Nat → qw_L → List Value → qw_M → Prop) (n : Nat) : Nat → List (Nat × Instr) → qw_L → List Value → qw_M → Prop := match n with
  | 0 => fun pc _ ls st σ => P pc ls st σ
  | n + 1 => fun pc rest ls st σ => match rest with
    | [] => P pc ls st σ
    | q :: tl => match Nat.beq q.1 pc with
      | false => P pc ls st σ
      | true => qw_F tw w K Y Q (fun pc' ls' st' σ' => match qw_has cut pc' with
          | true => P pc' ls' st' σ'
          | false => qw_run tw w K Y code cut Q P n pc' (qw_nx code tl pc') ls' st' σ') q.2 pc ls st σ
end
section
/-! CORE 2: what the conditions of CORE 1 say holds of the machine -/
def qw_wf (w : qw_Wd) : Prop :=
  (∀ k r q, qw_cf w k r = .inl q → ∀ r', qw_cf w k r' = .inl q) ∧
  (∀ k r c, qw_cf w k r = .inr (.inr c) → ∀ j, (qw_kd w c.1 j = 1 → j < c.2.length ∧ ∀ x, qw_cf w k (upd r.1 j x, r.2) = .inr (.inr (c.1, c.2.set j (.int x)))) ∧ (qw_kd w c.1 j = 2 → j < c.2.length ∧ ∀ x, qw_cf w k (r.1, vp_updL r.2 j x) = .inr (.inr (c.1, c.2.set j (.long x)))))
def qw_cok (tw : List Cond) (w : qw_Wd) : Prop := ∀ ci q, (qw_cl w)[ci]? = some q → (∃ ty0 : Nat → FieldType, ∀ k, k < q.2.2 → parseFieldDescriptor (q.2.1 k).2.2.1 = some (ty0 k)) ∧ (∀ a, a < q.2.2 → ∀ b, b < q.2.2 → a ≠ b → (q.2.1 a).2.1 ≠ (q.2.1 b).2.1) ∧ (∀ x ∈ u_ws q.1 q.2.1 q.2.2, x ∈ tw) ∧
  ∀ j, (qw_kd w ci j = 1 → j < q.2.2 ∧ parseFieldDescriptor (q.2.1 j).2.2.1 = some .int ∧ (q.2.1 j).2.2.2 = false) ∧ (qw_kd w ci j = 2 → j < q.2.2 ∧ parseFieldDescriptor (q.2.1 j).2.2.1 = some .long ∧ (q.2.1 j).2.2.2 = false)
def qw_tok (w : qw_Wd) : Prop := qw_ty w 0 = .int ∧ qw_ty w 1 = .byte ∧ (∃ C, qw_ty w 2 = .object C) ∧ 2 < qw_nT w
def qw_kok (tw : List Cond) (w : qw_Wd) (K : qw_K) : Prop :=
  (∀ j q, qw_lk (qw_kf K) j = some q → ∃ c, (qw_cl w)[q.1]? = some c ∧ q.2 < c.2.2 ∧ Cond.fieldLink (qw_kn K) j (c.2.1 q.2).1 (c.2.1 q.2).2.1 (c.2.1 q.2).2.2.1 ∈ tw) ∧
  (∀ j q, qw_lk (qw_kc K) j = some q → qw_yc q.2 ∈ tw ∧ Cond.methodLink (qw_kn K) j (qw_yn q.2) ∈ tw ∧ Cond.initialized (qw_yn q.2).cls ∈ tw ∧ ((qw_yn q.2).cls ≠ "java/lang/invoke/MethodHandle" ∧ (qw_yn q.2).cls ≠ "java/lang/invoke/VarHandle" ∧ (parseMethodDescriptor (qw_yn q.2).desc).map (fun d => d.parameters.length) = some (qw_yp q.2)) ∧
    (q.1 = none → Cond.static (qw_yn q.2) ∈ tw) ∧ (∀ ci, q.1 = some ci → Cond.instanceMethod (qw_yn q.2) ∈ tw ∧ Cond.selects (qw_yn q.2).cls (qw_yn q.2) (qw_yn q.2) ∈ tw ∧ ∃ c, (qw_cl w)[ci]? = some c ∧ c.1 = (qw_yn q.2).cls)) ∧
  (∀ j v, qw_lk (qw_ki K) j = some v → Cond.constant (qw_kn K) j v ∈ tw) ∧
  (∀ j v, qw_lk (qw_kl K) j = some v → Cond.constantLong (qw_kn K) j v ∈ tw) ∧
  (∀ j q z, qw_lk (qw_kg K) j = some q → (qw_sta w)[q]? = some z → Cond.fieldLink (qw_kn K) j z.1 z.2.1 z.2.2.1 ∈ tw) ∧
  (∀ j, Nat.beq j (qw_ka K) = true → Cond.methodLink (qw_kn K) j arraycopyName ∈ tw ∧ Cond.native arraycopyName ∈ tw ∧ Cond.static arraycopyName ∈ tw ∧ Cond.initialized "java/lang/System" ∈ tw)
def qw_good (tw : List Cond) : Prop := ∀ x ∈ tw, (x.onTables && x.keeps) = true ∨ ∃ ty, x = .arrayClass ty
def qw_ok (tw : List Cond) (w : qw_Wd) (K : qw_K) : Prop := qw_good tw ∧ qw_wf w ∧ qw_cok tw w ∧ qw_tok w ∧ qw_kok tw w K
/-- the machine in a method's frame -/
def qw_At (tw : List Cond) (w : qw_Wd) (K : qw_K) (Y : qw_Y) (p : Program) (s : State) (m : MethodId) (args : Array Value) (meth : Method) (c : Code) (g : qw_Ad) : Prop :=
  p.tables.exec = Jvm.exec ∧ c.code = qw_yb Y ∧ meth.sig.returnType = qw_yr Y ∧ c.maxLocals = qw_ym Y ∧ s.vm.findClass (qw_kn K) = some m.cls ∧ (∀ x ∈ qw_yc Y :: tw, x.before args s = true) ∧ meth.locks = false ∧ qw_I w g ∧ va_K g.1 (qw_cl w) (qw_ts w g) s ∧ qw_env w g s s.heap
def qw_Ev (tw : List Cond) (w : qw_Wd) (K : qw_K) (Y : qw_Y) (Q : Option Value → qw_M → Prop) (pc : Nat) (ls : qw_L) (st : List Value) (σ : qw_M) : Prop :=
  ∀ (p : Program) (l : Launch) (e : Env) (s : State) (m : MethodId) (args : Array Value) (below : List Frame) (meth : Method) (c : Code) (g : qw_Ad), qw_At tw w K Y p s m args meth c g → ∀ (H : Heap) (locs : List Loc), qw_P w g σ H → va_S (qw_A w g) s.heap H locs → ∀ lsA : Array Slot, lv_has lsA (qw_ym Y) (qw_lm g.2.1 ls) →
    W p l e (qw_rm Y) s m args below meth c H locs 0 0 (MQ below (qw_Z w g Y Q) args s 0 0 (qw_A w g)) (F0 m pc lsA (st.map (qw_rv g.2.1)))
section QS1
variable {tw : List Cond} {w : qw_Wd} {K : qw_K} {Y : qw_Y} {Q : Option Value → qw_M → Prop} {g : qw_Ad} {σ : qw_M}
theorem qw_ws_at {k : Nat} (h : k < qw_n w) : (qw_ws w g σ)[k]? = some (g.2.1 k, qw_re g (σ k) (qw_cf w k (σ k))) := by
  simp [qw_ws, h]
theorem qw_wr_at {k : Nat} (h : k < qw_nR w) : (qw_wr w g)[k]? = some (g.2.1 (qw_n w + k), qw_re g (qw_ro w (qw_n w + k)) (qw_cf w (qw_n w + k) (qw_ro w (qw_n w + k)))) := by
  simp [qw_wr, h]
theorem qw_ts_at {t : Nat} (h : t < qw_nT w) : (qw_ts w g)[t]? = some (g.2.2 t, qw_ty w t) := by
  simp [qw_ts, h]
theorem qw_ws_of {k : Nat} {q : Nat × va_E} (h : (qw_ws w g σ)[k]? = some q) : k < qw_n w ∧ q = (g.2.1 k, qw_re g (σ k) (qw_cf w k (σ k))) := by
  have hk : k < qw_n w := by
    have := (List.getElem?_eq_some_iff.mp h).1
    simpa [qw_ws] using this
  rw [qw_ws_at hk] at h
  exact ⟨hk, (Option.some.inj h).symm⟩
theorem qw_D (hI : qw_I w g) : va_D (qw_A w g) (qw_ws w g σ) := by
  refine ⟨fun i j p q hi hj h => ?_, fun k q hk => ?_⟩
  · obtain ⟨h1, rfl⟩ := qw_ws_of hi
    obtain ⟨h2, rfl⟩ := qw_ws_of hj
    exact hI i j h1 h2 h
  · obtain ⟨h1, rfl⟩ := qw_ws_of hk
    exact ⟨k, h1, rfl⟩
theorem qw_ws_set {k : Nat} (h : k < qw_n w) {r : qw_R} {X : va_E} (he : qw_re g r (qw_cf w k r) = X) : (qw_ws w g σ).set k (g.2.1 k, X) = qw_ws w g (qw_up σ k r) := by
  subst he
  apply List.ext_getElem?
  intro j
  by_cases hj : j = k
  · subst hj
    rw [List.getElem?_set_self (by simpa [qw_ws] using h), qw_ws_at h]
    simp [qw_up]
  · rw [List.getElem?_set_ne (Ne.symm hj)]
    by_cases hl : j < qw_n w
    · rw [qw_ws_at hl, qw_ws_at hl]
      simp [qw_up, hj]
    · rw [List.getElem?_eq_none (by simp [qw_ws]; omega), List.getElem?_eq_none (by simp [qw_ws]; omega)]
theorem qw_lk_mem {α : Type} : ∀ {l : List (Nat × α)} {k : Nat} {v : α}, qw_lk l k = some v → (k, v) ∈ l
  | [], k, v, h => by simp [qw_lk] at h
  | q :: l, k, v, h => by
    unfold qw_lk at h
    split at h
    · rename_i hb
      have hb := Nat.eq_of_beq_eq_true hb
      cases h
      subst hb
      exact List.mem_cons_self
    · exact List.mem_cons_of_mem _ (qw_lk_mem h)
theorem qw_loc {lsA : Array Slot} {n : Nat} {a : Nat → Nat} {ls : qw_L} (h : lv_has lsA n (qw_lm a ls)) {j : Nat} {v : Value} (hv : qw_lk ls j = some v) : lsA[j]? = some (.val (qw_rv a v)) :=
  h.2.2 (j, qw_rv a v) (List.mem_map.mpr ⟨(j, v), qw_lk_mem hv, rfl⟩)
theorem qw_sins_mem {p q : Nat × Value} : ∀ {l : qw_L}, q ∈ qw_sins p l → q = p ∨ q ∈ l
  | [], h => by
    unfold qw_sins at h
    exact Or.inl (List.mem_singleton.mp h)
  | x :: l, h => by
    unfold qw_sins at h
    split at h
    · rcases List.mem_cons.mp h with e | e
      · exact Or.inr (e ▸ List.mem_cons_self)
      · rcases qw_sins_mem e with e | e
        · exact Or.inl e
        · exact Or.inr (List.mem_cons_of_mem _ e)
    · rcases List.mem_cons.mp h with e | e
      · exact Or.inl e
      · exact Or.inr e
theorem qw_cat (a : Nat → Nat) (v : Value) : (qw_rv a v).category = v.category := by cases v <;> rfl
theorem qw_has1 {lsA : Array Slot} {n : Nat} {a : Nat → Nat} {ls : qw_L} {i : Nat} {v : Value} (h : lv_has lsA n ((i, qw_rv a v) :: (qw_lm a ls).filter (fun q => !(q.1 == i) && !(q.1 + 1 == i && q.2.category == 2)))) : lv_has lsA n (qw_lm a (qw_s1 ls i v)) := by
  refine ⟨h.1, h.2.1, fun q hq => ?_⟩
  obtain ⟨q0, h0, rfl⟩ := List.mem_map.mp hq
  rcases qw_sins_mem h0 with rfl | h1
  · exact h.2.2 _ List.mem_cons_self
  · refine h.2.2 _ (List.mem_cons_of_mem _ (List.mem_filter.mpr ⟨List.mem_map.mpr ⟨q0, (List.mem_filter.mp h1).1, rfl⟩, ?_⟩))
    have h2 := (List.mem_filter.mp h1).2
    simpa only [qw_cat] using h2
theorem qw_has2 {lsA : Array Slot} {n : Nat} {a : Nat → Nat} {ls : qw_L} {i : Nat} {v : Value} (h : lv_has lsA n ((i, qw_rv a v) :: (qw_lm a ls).filter (fun q => !(q.1 == i) && (!(q.1 == i + 1) && !(q.1 + 1 == i && q.2.category == 2))))) : lv_has lsA n (qw_lm a (qw_s2 ls i v)) := by
  refine ⟨h.1, h.2.1, fun q hq => ?_⟩
  obtain ⟨q0, h0, rfl⟩ := List.mem_map.mp hq
  rcases qw_sins_mem h0 with rfl | h1
  · exact h.2.2 _ List.mem_cons_self
  · refine h.2.2 _ (List.mem_cons_of_mem _ (List.mem_filter.mpr ⟨List.mem_map.mpr ⟨q0, (List.mem_filter.mp h1).1, rfl⟩, ?_⟩))
    have h2 := (List.mem_filter.mp h1).2
    simpa only [qw_cat] using h2
theorem qw_tg_inv {pc : Nat} {off : Int} {f : Nat → Prop} (h : qw_tg pc off f) : ∃ t : Nat, (pc : Int) + off = (t : Int) ∧ f t := by
  unfold qw_tg at h
  split at h
  · rename_i t ht
    exact ⟨t, ht, h⟩
  · exact h.elim
theorem qw_sw_inv {pc : Nat} {x : Int} {f : Nat → Prop} : ∀ {offs : List Int} {v : Int}, qw_sw pc offs x v f → ∀ (j : Nat) (off : Int), offs[j]? = some off → x = v + j → qw_tg pc off f
  | [], v, _, j, off, h, _ => by simp at h
  | o :: l, v, hs, j, off, h, hx => by
    obtain ⟨h1, h2⟩ := hs
    cases j with
    | zero =>
      simp at h
      subst h
      exact h1 (by simpa using hx)
    | succ j => exact qw_sw_inv h2 j off (by simpa using h) (by rw [hx]; push_cast; omega)
theorem qw_i1_inv {st : List Value} {f : Int32 → List Value → Prop} (h : qw_i1 st f) : ∃ x r, st = .int x :: r ∧ f x r := by
  unfold qw_i1 at h
  split at h
  · exact ⟨_, _, rfl, h⟩
  · exact h.elim
theorem qw_i2_inv {st : List Value} {f : Int32 → Int32 → List Value → Prop} (h : qw_i2 st f) : ∃ x y r, st = .int y :: .int x :: r ∧ f x y r := by
  unfold qw_i2 at h
  split at h
  · exact ⟨_, _, _, rfl, h⟩
  · exact h.elim
theorem qw_l1_inv {st : List Value} {f : Int64 → List Value → Prop} (h : qw_l1 st f) : ∃ x r, st = .long x :: r ∧ f x r := by
  unfold qw_l1 at h
  split at h
  · exact ⟨_, _, rfl, h⟩
  · exact h.elim
theorem qw_l2_inv {st : List Value} {f : Int64 → Int64 → List Value → Prop} (h : qw_l2 st f) : ∃ x y r, st = .long y :: .long x :: r ∧ f x y r := by
  unfold qw_l2 at h
  split at h
  · exact ⟨_, _, _, rfl, h⟩
  · exact h.elim
theorem qw_o1_inv {st : List Value} {f : Nat → List Value → Prop} (h : qw_o1 st f) : ∃ o r, st = .ref o :: r ∧ f o r := by
  unfold qw_o1 at h
  split at h
  · exact ⟨_, _, rfl, h⟩
  · exact h.elim
theorem qw_dec1 {cc : ByteArray} {pc : Nat} {i : Instr} (h : qw_dec cc pc i) (hi : qw_isw i = false) : decode cc pc = .ok (i, qw_len i) := by
  obtain ⟨n, h1, h2 | h2⟩ := h
  · rw [h1, h2]
  · rw [hi] at h2; cases h2
theorem qw_okb_dec {cc : ByteArray} {q : Nat × Instr} (h : qw_okb cc q = true) : qw_dec cc q.1 q.2 := by
  unfold qw_okb at h
  split at h
  · rename_i j n hd
    simp only [Bool.and_eq_true, decide_eq_true_eq, Bool.or_eq_true] at h
    obtain ⟨h1, h2⟩ := h
    refine ⟨n, by rw [hd, h1], h2.imp (fun z => Nat.eq_of_beq_eq_true z) id⟩
  · cases h
/-- a cell that may be read, where it lies -/
theorem qw_cell {H0 H : Heap} {U : State} {locs : List Loc} (hP : qw_P w g σ H) (hE : qw_env w g U H0) (hS : va_S (qw_A w g) H0 H locs) {o : Nat} (ho : o < qw_n w + qw_nR w) : ∃ (ws : va_W) (q0 : Nat), va_P g.1 (qw_cl w) ws H ∧ ws[q0]? = some (g.2.1 o, qw_re g (qw_row w σ o) (qw_cf w o (qw_row w σ o))) := by
  by_cases h : o < qw_n w
  · refine ⟨_, o, hP, ?_⟩
    rw [qw_ws_at h]
    have : Nat.blt o (qw_n w) = true := Nat.ble_eq_true_of_le h
    simp only [qw_row, this]
  · obtain ⟨j, rfl⟩ : ∃ j, o = qw_n w + j := ⟨o - qw_n w, by omega⟩
    have hj : j < qw_nR w := by omega
    refine ⟨qw_wr w g, j, ?_, ?_⟩
    · refine hE.1.kept (fun k q hk => hS.2.1 _ (hE.1 k q hk).lt ?_)
      have hk2 : k < qw_nR w := by
        have := (List.getElem?_eq_some_iff.mp hk).1
        simpa [qw_wr] using this
      rw [qw_wr_at hk2] at hk
      cases hk
      exact hE.2.1 k hk2
    · rw [qw_wr_at hj]
      have : Nat.blt (qw_n w + j) (qw_n w) = false := by
        cases hb : Nat.blt (qw_n w + j) (qw_n w) with
        | false => rfl
        | true => exact absurd (Nat.le_of_ble_eq_true hb) (by omega)
      simp only [qw_row, this]
end QS1
end
section
/-! CORE 3: one instruction, on the machine -/
section QS2
variable {tw : List Cond} {w : qw_Wd} {K : qw_K} {Y : qw_Y} {Q : Option Value → qw_M → Prop}
theorem qw_P.put {g : qw_Ad} {σ : qw_M} {H : Heap} {o : Nat} {r : qw_R} {X : va_E} (ho : o < qw_n w) (he : qw_re g r (qw_cf w o r) = X) (h : va_P g.1 (qw_cl w) ((qw_ws w g σ).set o (g.2.1 o, X)) H) : qw_P w g (qw_up σ o r) H := by
  rw [qw_ws_set ho he] at h
  exact h
theorem qw_lt {a b : Nat} (h : Nat.blt a b = true) : a < b := Nat.le_of_ble_eq_true h
theorem qw_blind {g : qw_Ad} {av : List Value} {σ : qw_M} : FrameBlind (va_Pc av (fun U => qw_P w g σ U.heap ∧ va_K g.1 (qw_cl w) (qw_ts w g) U ∧ qw_env w g U U.heap)) := fun a U f mk h =>
  ⟨h.1, h.2.1, va_K.moved (u := U) (U := U.calling f mk a) (Vm.Alike.refl U.vm) h.2.2.1, h.2.2.2.1, h.2.2.2.2.1, fun q hq => va_Z.moved (u := U) (U := U.calling f mk a) (Vm.Alike.refl U.vm) (h.2.2.2.2.2 q hq)⟩
theorem qw_env.to {g : qw_Ad} {u U : State} {H H1 : Heap} {locs : List Loc} (h : qw_env w g u H) (hvm : u.vm.Alike U.vm) (hS : va_S (qw_A w g) H H1 locs) : qw_env w g U H1 := by
  refine ⟨h.1.kept (fun k q hk => hS.2.1 _ (h.1 k q hk).lt ?_), h.2.1, fun q hq => va_Z.moved hvm ((h.2.2 q hq).kept (fun a h1 h2 => hS.2.1 a h1 h2))⟩
  have hk2 : k < qw_nR w := by
    have := (List.getElem?_eq_some_iff.mp hk).1
    simpa [qw_wr] using this
  rw [qw_wr_at hk2] at hk
  cases hk
  exact h.2.1 k hk2
/-- behind a call -/
theorem qw_go {p : Program} {l : Launch} {e : Env} {R : Room} {s : State} {m : MethodId} {args : Array Value} {below : List Frame} {meth : Method} {c : Code} {g : qw_Ad} {H H0 : Heap} {locs : List Loc} {Qf : State → Prop} {pc : Nat} {ls : Array Slot} {rest st0 : List Value} {a : Array Value} {Yc : qw_Y} {Qc : Option Value → qw_M → Prop}
    (hr : va_Run p l e R s m args below meth c H locs 0 0 0 0 (F0 m pc ls st0) rest (qw_Z w g Yc Qc a) (qw_A w g)) (hS : va_S (qw_A w g) H0 H locs)
    (kk : ∀ (r : Option Value) (σ' : qw_M) (H1 : Heap) (locs1 : List Loc), qw_sh (qw_yr Yc) r → Qc r σ' → qw_P w g σ' H1 → va_S (qw_A w g) H0 H1 locs1 → W p l e R s m args below meth c H1 locs1 0 0 Qf (F0 m (pc + 3) ls ((r.map (qw_rv g.2.1)).toList ++ rest))) : W p l e R s m args below meth c H locs 0 0 Qf (F0 m pc ls st0) := by
  intro T hT X
  obtain ⟨v, st₀, t, T', L, h0, X', hL, e1, e2, ⟨⟨r, σ', hv, hp, hq, hb⟩, hz, hk⟩, st⟩ := hr T hT X
  cases hv
  rw [h0] at hz hk
  obtain ⟨t2, a1, b1⟩ := kk r σ' T'.heap (locs ++ L) hp hq (by rw [e1]; exact hb)
    ⟨Nat.le_trans hS.1 (by rw [e1]; exact hz), fun q h1 h2 => by rw [e1, hk q (Nat.lt_of_lt_of_le h1 hS.1) (fun z => h2 z)]; exact hS.2.1 q h1 h2, fun q hq => by
      rcases List.mem_append.mp hq with h | h
      · exact hS.2.2 q h
      · exact hL q h⟩ T' rfl X'
  exact ⟨t2, st t2 a1, b1⟩
/-- a call's end, by the kind of the answer -/
theorem qw_cont {av rest : List Value} {σ : qw_M} {Yc : qw_Y} {f : List Value → qw_M → Prop} (h : qw_cal tw w Y Yc av rest σ f) : (rest.map fun v => v.category).sum ≤ 8 ∧ qw_yf Yc + 1 ≤ qw_yf Y ∧ 8 + (qw_ym Yc + 11) + qw_yl Yc ≤ qw_yl Y ∧ ∃ Qc, qw_Mt tw w Yc av σ Qc ∧ ∀ r σ', qw_sh (qw_yr Yc) r → Qc r σ' → f (r.toList ++ rest) σ' := by
  obtain ⟨h1, Qc, h2, h3⟩ := h
  split at h1
  · rename_i e1 e2 e3
    refine ⟨Nat.le_of_ble_eq_true e1, Nat.le_of_ble_eq_true e2, Nat.le_of_ble_eq_true e3, Qc, h2, fun r σ' hs hq => ?_⟩
    generalize qw_yr Yc = t at hs h3
    cases t with
    | none =>
      have hs : r = none := hs
      subst hs
      exact h3 σ' hq
    | some t =>
      cases t with
      | int => obtain ⟨x, rfl⟩ := hs; exact h3 x σ' hq
      | long => obtain ⟨x, rfl⟩ := hs; exact h3 x σ' hq
      | boolean =>
        rcases hs with rfl | rfl
        · exact h3 0 σ' (Or.inl rfl) hq
        · exact h3 1 σ' (Or.inr rfl) hq
      | object C =>
        rcases hs with rfl | ⟨k, rfl⟩
        · exact h3.1 σ' hq
        · exact h3.2 k σ' hq
      | byte => obtain ⟨x, rfl⟩ := hs; exact h3 x σ' hq
      | char => obtain ⟨x, rfl⟩ := hs; exact h3 x σ' hq
      | short => obtain ⟨x, rfl⟩ := hs; exact h3 x σ' hq
      | float => obtain ⟨x, rfl⟩ := hs; exact h3 x σ' hq
      | double => obtain ⟨x, rfl⟩ := hs; exact h3 x σ' hq
      | array C => obtain ⟨x, rfl⟩ := hs; exact h3 x σ' hq
  · exact h1.elim
/-- what a branch of numbers asks, on the machine -/
theorem qw_Ev.br {c a b : Prop} {A B : Prop} (h : qw_br c a b) (ha : a → A) (hb : b → B) : (c → A) ∧ (¬ c → B) := ⟨fun z => ha (h.1 z), fun z => hb (h.2 z)⟩
theorem qw_Ev.nb {c a b : Prop} {A B : Prop} (h : qw_nb c a b) (ha : a → A) (hb : b → B) : (¬ c → A) ∧ (c → B) := ⟨fun z => ha (h.1 z), fun z => hb (h.2 z)⟩
theorem qw_toS {g : qw_Ad} {lsA : Array Slot} {ls : qw_L} {n : Nat} (h : lv_has lsA n ls) : lsA.size = n := h.1
end QS2
end
section
/-! CORE 4: each instruction, on the machine; runs of instructions -/
section QS3
variable {tw : List Cond} {w : qw_Wd} {K : qw_K} {Y : qw_Y} {Q : Option Value → qw_M → Prop}
/-- an instruction that only goes on -/
def qw_On (tw : List Cond) (w : qw_Wd) (K : qw_K) (Y : qw_Y) (Q : Option Value → qw_M → Prop) (k : Nat → qw_L → List Value → qw_M → Prop) : Prop := ∀ pc' ls' st' σ', k pc' ls' st' σ' → qw_Ev tw w K Y Q pc' ls' st' σ'

theorem qw_step_iconst (hok : qw_ok tw w K) {k : Nat → qw_L → List Value → qw_M → Prop} (hk : qw_On tw w K Y Q k) {pc : Nat} {ls : qw_L} {st : List Value} {σ : qw_M} {n : Int} (hd : qw_dec (qw_yb Y) pc (.iconst n)) (hF : qw_F tw w K Y Q k (.iconst n) pc ls st σ) : qw_Ev tw w K Y Q pc ls st σ := by
  have hd := qw_dec1 hd rfl
  intro p l e s m args below meth c g C0 H locs hP hS lsA hl
  obtain ⟨hx, hb, hret, hml, hown, hts, hlk, hI, hK, hE⟩ := id C0
  obtain ⟨hgood, hwf, hcok, htok, hkok⟩ := id hok
  exact lv_iconst hx hb hd rfl (hk _ _ _ _ hF p l e s m args below meth c g C0 H locs hP hS lsA hl)
theorem qw_step_bipush (hok : qw_ok tw w K) {k : Nat → qw_L → List Value → qw_M → Prop} (hk : qw_On tw w K Y Q k) {pc : Nat} {ls : qw_L} {st : List Value} {σ : qw_M} {n : Int} (hd : qw_dec (qw_yb Y) pc (.bipush n)) (hF : qw_F tw w K Y Q k (.bipush n) pc ls st σ) : qw_Ev tw w K Y Q pc ls st σ := by
  have hd := qw_dec1 hd rfl
  intro p l e s m args below meth c g C0 H locs hP hS lsA hl
  obtain ⟨hx, hb, hret, hml, hown, hts, hlk, hI, hK, hE⟩ := id C0
  obtain ⟨hgood, hwf, hcok, htok, hkok⟩ := id hok
  exact lv_bipush hx hb hd rfl (hk _ _ _ _ hF p l e s m args below meth c g C0 H locs hP hS lsA hl)
theorem qw_step_sipush (hok : qw_ok tw w K) {k : Nat → qw_L → List Value → qw_M → Prop} (hk : qw_On tw w K Y Q k) {pc : Nat} {ls : qw_L} {st : List Value} {σ : qw_M} {n : Int} (hd : qw_dec (qw_yb Y) pc (.sipush n)) (hF : qw_F tw w K Y Q k (.sipush n) pc ls st σ) : qw_Ev tw w K Y Q pc ls st σ := by
  have hd := qw_dec1 hd rfl
  intro p l e s m args below meth c g C0 H locs hP hS lsA hl
  obtain ⟨hx, hb, hret, hml, hown, hts, hlk, hI, hK, hE⟩ := id C0
  obtain ⟨hgood, hwf, hcok, htok, hkok⟩ := id hok
  exact lv_sipush hx hb hd rfl (hk _ _ _ _ hF p l e s m args below meth c g C0 H locs hP hS lsA hl)
theorem qw_step_lconst (hok : qw_ok tw w K) {k : Nat → qw_L → List Value → qw_M → Prop} (hk : qw_On tw w K Y Q k) {pc : Nat} {ls : qw_L} {st : List Value} {σ : qw_M} {n : Fin 2} (hd : qw_dec (qw_yb Y) pc (.lconst n)) (hF : qw_F tw w K Y Q k (.lconst n) pc ls st σ) : qw_Ev tw w K Y Q pc ls st σ := by
  have hd := qw_dec1 hd rfl
  intro p l e s m args below meth c g C0 H locs hP hS lsA hl
  obtain ⟨hx, hb, hret, hml, hown, hts, hlk, hI, hK, hE⟩ := id C0
  obtain ⟨hgood, hwf, hcok, htok, hkok⟩ := id hok
  exact lv_lconst hx hb hd rfl (hk _ _ _ _ hF p l e s m args below meth c g C0 H locs hP hS lsA hl)
theorem qw_step_aconst_null (hok : qw_ok tw w K) {k : Nat → qw_L → List Value → qw_M → Prop} (hk : qw_On tw w K Y Q k) {pc : Nat} {ls : qw_L} {st : List Value} {σ : qw_M} (hd : qw_dec (qw_yb Y) pc (.aconst_null)) (hF : qw_F tw w K Y Q k (.aconst_null) pc ls st σ) : qw_Ev tw w K Y Q pc ls st σ := by
  have hd := qw_dec1 hd rfl
  intro p l e s m args below meth c g C0 H locs hP hS lsA hl
  obtain ⟨hx, hb, hret, hml, hown, hts, hlk, hI, hK, hE⟩ := id C0
  obtain ⟨hgood, hwf, hcok, htok, hkok⟩ := id hok
  exact lv_null hx hb hd (hk _ _ _ _ hF p l e s m args below meth c g C0 H locs hP hS lsA hl)
theorem qw_step_ldc (hok : qw_ok tw w K) {k : Nat → qw_L → List Value → qw_M → Prop} (hk : qw_On tw w K Y Q k) {pc : Nat} {ls : qw_L} {st : List Value} {σ : qw_M} {j : Nat} (hd : qw_dec (qw_yb Y) pc (.ldc j)) (hF : qw_F tw w K Y Q k (.ldc j) pc ls st σ) : qw_Ev tw w K Y Q pc ls st σ := by
  have hd := qw_dec1 hd rfl
  intro p l e s m args below meth c g C0 H locs hP hS lsA hl
  obtain ⟨hx, hb, hret, hml, hown, hts, hlk, hI, hK, hE⟩ := id C0
  obtain ⟨hgood, hwf, hcok, htok, hkok⟩ := id hok
  dsimp only [qw_F] at hF
  cases hq : qw_lk (qw_ki K) j with
  | none => simp only [hq] at hF
  | some v =>
    simp only [hq] at hF
    exact lv_ldc hx hb hown (hts _ (List.mem_cons_of_mem _ (hkok.2.2.1 j v hq))) hd (hk _ _ _ _ hF p l e s m args below meth c g C0 H locs hP hS lsA hl)
theorem qw_step_ldc_w (hok : qw_ok tw w K) {k : Nat → qw_L → List Value → qw_M → Prop} (hk : qw_On tw w K Y Q k) {pc : Nat} {ls : qw_L} {st : List Value} {σ : qw_M} {j : Nat} (hd : qw_dec (qw_yb Y) pc (.ldc_w j)) (hF : qw_F tw w K Y Q k (.ldc_w j) pc ls st σ) : qw_Ev tw w K Y Q pc ls st σ := by
  have hd := qw_dec1 hd rfl
  intro p l e s m args below meth c g C0 H locs hP hS lsA hl
  obtain ⟨hx, hb, hret, hml, hown, hts, hlk, hI, hK, hE⟩ := id C0
  obtain ⟨hgood, hwf, hcok, htok, hkok⟩ := id hok
  dsimp only [qw_F] at hF
  cases hq : qw_lk (qw_ki K) j with
  | none => simp only [hq] at hF
  | some v =>
    simp only [hq] at hF
    exact lv_ldcw hx hb hown (hts _ (List.mem_cons_of_mem _ (hkok.2.2.1 j v hq))) hd (hk _ _ _ _ hF p l e s m args below meth c g C0 H locs hP hS lsA hl)
theorem qw_step_ldc2_w (hok : qw_ok tw w K) {k : Nat → qw_L → List Value → qw_M → Prop} (hk : qw_On tw w K Y Q k) {pc : Nat} {ls : qw_L} {st : List Value} {σ : qw_M} {j : Nat} (hd : qw_dec (qw_yb Y) pc (.ldc2_w j)) (hF : qw_F tw w K Y Q k (.ldc2_w j) pc ls st σ) : qw_Ev tw w K Y Q pc ls st σ := by
  have hd := qw_dec1 hd rfl
  intro p l e s m args below meth c g C0 H locs hP hS lsA hl
  obtain ⟨hx, hb, hret, hml, hown, hts, hlk, hI, hK, hE⟩ := id C0
  obtain ⟨hgood, hwf, hcok, htok, hkok⟩ := id hok
  dsimp only [qw_F] at hF
  cases hq : qw_lk (qw_kl K) j with
  | none => simp only [hq] at hF
  | some v =>
    simp only [hq] at hF
    exact lv_ldc2 hx hb hown (hts _ (List.mem_cons_of_mem _ (hkok.2.2.2.1 j v hq))) hd (hk _ _ _ _ hF p l e s m args below meth c g C0 H locs hP hS lsA hl)
theorem qw_step_iload_n (hok : qw_ok tw w K) {k : Nat → qw_L → List Value → qw_M → Prop} (hk : qw_On tw w K Y Q k) {pc : Nat} {ls : qw_L} {st : List Value} {σ : qw_M} {j : Fin 4} (hd : qw_dec (qw_yb Y) pc (.iload_n j)) (hF : qw_F tw w K Y Q k (.iload_n j) pc ls st σ) : qw_Ev tw w K Y Q pc ls st σ := by
  have hd := qw_dec1 hd rfl
  intro p l e s m args below meth c g C0 H locs hP hS lsA hl
  obtain ⟨hx, hb, hret, hml, hown, hts, hlk, hI, hK, hE⟩ := id C0
  obtain ⟨hgood, hwf, hcok, htok, hkok⟩ := id hok
  dsimp only [qw_F] at hF
  split at hF <;> try exact False.elim hF
  rename_i x hq
  exact lv_iload_n hx hb hd rfl (qw_loc hl hq) (hk _ _ _ _ hF p l e s m args below meth c g C0 H locs hP hS lsA hl)
theorem qw_step_lload_n (hok : qw_ok tw w K) {k : Nat → qw_L → List Value → qw_M → Prop} (hk : qw_On tw w K Y Q k) {pc : Nat} {ls : qw_L} {st : List Value} {σ : qw_M} {j : Fin 4} (hd : qw_dec (qw_yb Y) pc (.lload_n j)) (hF : qw_F tw w K Y Q k (.lload_n j) pc ls st σ) : qw_Ev tw w K Y Q pc ls st σ := by
  have hd := qw_dec1 hd rfl
  intro p l e s m args below meth c g C0 H locs hP hS lsA hl
  obtain ⟨hx, hb, hret, hml, hown, hts, hlk, hI, hK, hE⟩ := id C0
  obtain ⟨hgood, hwf, hcok, htok, hkok⟩ := id hok
  dsimp only [qw_F] at hF
  split at hF <;> try exact False.elim hF
  rename_i x hq
  exact lv_lload_n hx hb hd rfl (qw_loc hl hq) (hk _ _ _ _ hF p l e s m args below meth c g C0 H locs hP hS lsA hl)
theorem qw_step_iload (hok : qw_ok tw w K) {k : Nat → qw_L → List Value → qw_M → Prop} (hk : qw_On tw w K Y Q k) {pc : Nat} {ls : qw_L} {st : List Value} {σ : qw_M} {j : Nat} (hd : qw_dec (qw_yb Y) pc (.iload j)) (hF : qw_F tw w K Y Q k (.iload j) pc ls st σ) : qw_Ev tw w K Y Q pc ls st σ := by
  have hd := qw_dec1 hd rfl
  intro p l e s m args below meth c g C0 H locs hP hS lsA hl
  obtain ⟨hx, hb, hret, hml, hown, hts, hlk, hI, hK, hE⟩ := id C0
  obtain ⟨hgood, hwf, hcok, htok, hkok⟩ := id hok
  dsimp only [qw_F] at hF
  split at hF <;> try exact False.elim hF
  rename_i x hq
  exact lv_iload hx hb hd (qw_loc hl hq) (hk _ _ _ _ hF p l e s m args below meth c g C0 H locs hP hS lsA hl)
theorem qw_step_lload (hok : qw_ok tw w K) {k : Nat → qw_L → List Value → qw_M → Prop} (hk : qw_On tw w K Y Q k) {pc : Nat} {ls : qw_L} {st : List Value} {σ : qw_M} {j : Nat} (hd : qw_dec (qw_yb Y) pc (.lload j)) (hF : qw_F tw w K Y Q k (.lload j) pc ls st σ) : qw_Ev tw w K Y Q pc ls st σ := by
  have hd := qw_dec1 hd rfl
  intro p l e s m args below meth c g C0 H locs hP hS lsA hl
  obtain ⟨hx, hb, hret, hml, hown, hts, hlk, hI, hK, hE⟩ := id C0
  obtain ⟨hgood, hwf, hcok, htok, hkok⟩ := id hok
  dsimp only [qw_F] at hF
  split at hF <;> try exact False.elim hF
  rename_i x hq
  exact lv_lload hx hb hd (qw_loc hl hq) (hk _ _ _ _ hF p l e s m args below meth c g C0 H locs hP hS lsA hl)
theorem qw_step_aload_n (hok : qw_ok tw w K) {k : Nat → qw_L → List Value → qw_M → Prop} (hk : qw_On tw w K Y Q k) {pc : Nat} {ls : qw_L} {st : List Value} {σ : qw_M} {j : Fin 4} (hd : qw_dec (qw_yb Y) pc (.aload_n j)) (hF : qw_F tw w K Y Q k (.aload_n j) pc ls st σ) : qw_Ev tw w K Y Q pc ls st σ := by
  have hd := qw_dec1 hd rfl
  intro p l e s m args below meth c g C0 H locs hP hS lsA hl
  obtain ⟨hx, hb, hret, hml, hown, hts, hlk, hI, hK, hE⟩ := id C0
  obtain ⟨hgood, hwf, hcok, htok, hkok⟩ := id hok
  dsimp only [qw_F] at hF
  split at hF <;> try exact False.elim hF
  · rename_i x hq
    exact lv_aload_n hx hb hd rfl (qw_loc hl hq) (hk _ _ _ _ hF p l e s m args below meth c g C0 H locs hP hS lsA hl)
  · rename_i hq
    exact lv_aload_nN hx hb hd rfl (qw_loc hl hq) (hk _ _ _ _ hF p l e s m args below meth c g C0 H locs hP hS lsA hl)
theorem qw_step_aload (hok : qw_ok tw w K) {k : Nat → qw_L → List Value → qw_M → Prop} (hk : qw_On tw w K Y Q k) {pc : Nat} {ls : qw_L} {st : List Value} {σ : qw_M} {j : Nat} (hd : qw_dec (qw_yb Y) pc (.aload j)) (hF : qw_F tw w K Y Q k (.aload j) pc ls st σ) : qw_Ev tw w K Y Q pc ls st σ := by
  have hd := qw_dec1 hd rfl
  intro p l e s m args below meth c g C0 H locs hP hS lsA hl
  obtain ⟨hx, hb, hret, hml, hown, hts, hlk, hI, hK, hE⟩ := id C0
  obtain ⟨hgood, hwf, hcok, htok, hkok⟩ := id hok
  dsimp only [qw_F] at hF
  split at hF <;> try exact False.elim hF
  · rename_i x hq
    exact lv_aload hx hb hd (qw_loc hl hq) (hk _ _ _ _ hF p l e s m args below meth c g C0 H locs hP hS lsA hl)
  · rename_i hq
    exact lv_aloadN hx hb hd (qw_loc hl hq) (hk _ _ _ _ hF p l e s m args below meth c g C0 H locs hP hS lsA hl)
theorem qw_step_istore_n (hok : qw_ok tw w K) {k : Nat → qw_L → List Value → qw_M → Prop} (hk : qw_On tw w K Y Q k) {pc : Nat} {ls : qw_L} {st : List Value} {σ : qw_M} {j : Fin 4} (hd : qw_dec (qw_yb Y) pc (.istore_n j)) (hF : qw_F tw w K Y Q k (.istore_n j) pc ls st σ) : qw_Ev tw w K Y Q pc ls st σ := by
  have hd := qw_dec1 hd rfl
  intro p l e s m args below meth c g C0 H locs hP hS lsA hl
  obtain ⟨hx, hb, hret, hml, hown, hts, hlk, hI, hK, hE⟩ := id C0
  obtain ⟨hgood, hwf, hcok, htok, hkok⟩ := id hok
  dsimp only [qw_F] at hF
  split at hF <;> try exact False.elim hF
  rename_i hj
  obtain ⟨x, r, rfl, h⟩ := qw_i1_inv hF
  exact lv_istore_n hx hb hd rfl hl (qw_lt hj) rfl (fun ls' h' => hk _ _ _ _ h p l e s m args below meth c g C0 H locs hP hS ls' (qw_has1 h'))
theorem qw_step_istore (hok : qw_ok tw w K) {k : Nat → qw_L → List Value → qw_M → Prop} (hk : qw_On tw w K Y Q k) {pc : Nat} {ls : qw_L} {st : List Value} {σ : qw_M} {j : Nat} (hd : qw_dec (qw_yb Y) pc (.istore j)) (hF : qw_F tw w K Y Q k (.istore j) pc ls st σ) : qw_Ev tw w K Y Q pc ls st σ := by
  have hd := qw_dec1 hd rfl
  intro p l e s m args below meth c g C0 H locs hP hS lsA hl
  obtain ⟨hx, hb, hret, hml, hown, hts, hlk, hI, hK, hE⟩ := id C0
  obtain ⟨hgood, hwf, hcok, htok, hkok⟩ := id hok
  dsimp only [qw_F] at hF
  split at hF <;> try exact False.elim hF
  rename_i hj
  obtain ⟨x, r, rfl, h⟩ := qw_i1_inv hF
  exact lv_istore hx hb hd hl (qw_lt hj) rfl (fun ls' h' => hk _ _ _ _ h p l e s m args below meth c g C0 H locs hP hS ls' (qw_has1 h'))
theorem qw_step_lstore_n (hok : qw_ok tw w K) {k : Nat → qw_L → List Value → qw_M → Prop} (hk : qw_On tw w K Y Q k) {pc : Nat} {ls : qw_L} {st : List Value} {σ : qw_M} {j : Fin 4} (hd : qw_dec (qw_yb Y) pc (.lstore_n j)) (hF : qw_F tw w K Y Q k (.lstore_n j) pc ls st σ) : qw_Ev tw w K Y Q pc ls st σ := by
  have hd := qw_dec1 hd rfl
  intro p l e s m args below meth c g C0 H locs hP hS lsA hl
  obtain ⟨hx, hb, hret, hml, hown, hts, hlk, hI, hK, hE⟩ := id C0
  obtain ⟨hgood, hwf, hcok, htok, hkok⟩ := id hok
  dsimp only [qw_F] at hF
  split at hF <;> try exact False.elim hF
  rename_i hj
  obtain ⟨x, r, rfl, h⟩ := qw_l1_inv hF
  exact lv_lstore_n hx hb hd rfl hl (qw_lt hj) rfl (fun ls' h' => hk _ _ _ _ h p l e s m args below meth c g C0 H locs hP hS ls' (qw_has2 h'))
theorem qw_step_lstore (hok : qw_ok tw w K) {k : Nat → qw_L → List Value → qw_M → Prop} (hk : qw_On tw w K Y Q k) {pc : Nat} {ls : qw_L} {st : List Value} {σ : qw_M} {j : Nat} (hd : qw_dec (qw_yb Y) pc (.lstore j)) (hF : qw_F tw w K Y Q k (.lstore j) pc ls st σ) : qw_Ev tw w K Y Q pc ls st σ := by
  have hd := qw_dec1 hd rfl
  intro p l e s m args below meth c g C0 H locs hP hS lsA hl
  obtain ⟨hx, hb, hret, hml, hown, hts, hlk, hI, hK, hE⟩ := id C0
  obtain ⟨hgood, hwf, hcok, htok, hkok⟩ := id hok
  dsimp only [qw_F] at hF
  split at hF <;> try exact False.elim hF
  rename_i hj
  obtain ⟨x, r, rfl, h⟩ := qw_l1_inv hF
  exact lv_lstore hx hb hd hl (qw_lt hj) rfl (fun ls' h' => hk _ _ _ _ h p l e s m args below meth c g C0 H locs hP hS ls' (qw_has2 h'))
theorem qw_step_astore_n (hok : qw_ok tw w K) {k : Nat → qw_L → List Value → qw_M → Prop} (hk : qw_On tw w K Y Q k) {pc : Nat} {ls : qw_L} {st : List Value} {σ : qw_M} {j : Fin 4} (hd : qw_dec (qw_yb Y) pc (.astore_n j)) (hF : qw_F tw w K Y Q k (.astore_n j) pc ls st σ) : qw_Ev tw w K Y Q pc ls st σ := by
  have hd := qw_dec1 hd rfl
  intro p l e s m args below meth c g C0 H locs hP hS lsA hl
  obtain ⟨hx, hb, hret, hml, hown, hts, hlk, hI, hK, hE⟩ := id C0
  obtain ⟨hgood, hwf, hcok, htok, hkok⟩ := id hok
  dsimp only [qw_F] at hF
  split at hF <;> try exact False.elim hF
  · rename_i x r hj
    exact lv_astore_n hx hb hd rfl hl (qw_lt hj) rfl (fun ls' h' => hk _ _ _ _ hF p l e s m args below meth c g C0 H locs hP hS ls' (qw_has1 (v := .ref x) h'))
  · rename_i r hj
    exact lv_astore_nN hx hb hd rfl hl (qw_lt hj) rfl (fun ls' h' => hk _ _ _ _ hF p l e s m args below meth c g C0 H locs hP hS ls' (qw_has1 (v := .null) h'))
theorem qw_step_astore (hok : qw_ok tw w K) {k : Nat → qw_L → List Value → qw_M → Prop} (hk : qw_On tw w K Y Q k) {pc : Nat} {ls : qw_L} {st : List Value} {σ : qw_M} {j : Nat} (hd : qw_dec (qw_yb Y) pc (.astore j)) (hF : qw_F tw w K Y Q k (.astore j) pc ls st σ) : qw_Ev tw w K Y Q pc ls st σ := by
  have hd := qw_dec1 hd rfl
  intro p l e s m args below meth c g C0 H locs hP hS lsA hl
  obtain ⟨hx, hb, hret, hml, hown, hts, hlk, hI, hK, hE⟩ := id C0
  obtain ⟨hgood, hwf, hcok, htok, hkok⟩ := id hok
  dsimp only [qw_F] at hF
  split at hF <;> try exact False.elim hF
  · rename_i x r hj
    exact lv_astore hx hb hd hl (qw_lt hj) rfl (fun ls' h' => hk _ _ _ _ hF p l e s m args below meth c g C0 H locs hP hS ls' (qw_has1 (v := .ref x) h'))
  · rename_i r hj
    exact lv_astoreN hx hb hd hl (qw_lt hj) rfl (fun ls' h' => hk _ _ _ _ hF p l e s m args below meth c g C0 H locs hP hS ls' (qw_has1 (v := .null) h'))
theorem qw_step_iinc (hok : qw_ok tw w K) {k : Nat → qw_L → List Value → qw_M → Prop} (hk : qw_On tw w K Y Q k) {pc : Nat} {ls : qw_L} {st : List Value} {σ : qw_M} {j : Nat} {n : Int} (hd : qw_dec (qw_yb Y) pc (.iinc j n)) (hF : qw_F tw w K Y Q k (.iinc j n) pc ls st σ) : qw_Ev tw w K Y Q pc ls st σ := by
  have hd := qw_dec1 hd rfl
  intro p l e s m args below meth c g C0 H locs hP hS lsA hl
  obtain ⟨hx, hb, hret, hml, hown, hts, hlk, hI, hK, hE⟩ := id C0
  obtain ⟨hgood, hwf, hcok, htok, hkok⟩ := id hok
  dsimp only [qw_F] at hF
  split at hF <;> try exact False.elim hF
  rename_i x hj hq
  obtain ⟨i0, hi0⟩ := List.getElem?_of_mem (List.mem_map.mpr ⟨(j, Value.int x), qw_lk_mem hq, rfl⟩ : (j, Value.int x) ∈ qw_lm g.2.1 ls)
  exact lv_iinc hx hb hd hl hi0 rfl (qw_lt hj) rfl (fun ls' h' => hk _ _ _ _ hF p l e s m args below meth c g C0 H locs hP hS ls' (qw_has1 (v := .int _) h'))
theorem qw_step_iadd (hok : qw_ok tw w K) {k : Nat → qw_L → List Value → qw_M → Prop} (hk : qw_On tw w K Y Q k) {pc : Nat} {ls : qw_L} {st : List Value} {σ : qw_M} (hd : qw_dec (qw_yb Y) pc (.iadd)) (hF : qw_F tw w K Y Q k (.iadd) pc ls st σ) : qw_Ev tw w K Y Q pc ls st σ := by
  have hd := qw_dec1 hd rfl
  intro p l e s m args below meth c g C0 H locs hP hS lsA hl
  obtain ⟨hx, hb, hret, hml, hown, hts, hlk, hI, hK, hE⟩ := id C0
  obtain ⟨hgood, hwf, hcok, htok, hkok⟩ := id hok
  obtain ⟨x, y, r, rfl, h⟩ := qw_i2_inv hF
  exact lv_iadd hx hb hd (hk _ _ _ _ h p l e s m args below meth c g C0 H locs hP hS lsA hl)
theorem qw_step_isub (hok : qw_ok tw w K) {k : Nat → qw_L → List Value → qw_M → Prop} (hk : qw_On tw w K Y Q k) {pc : Nat} {ls : qw_L} {st : List Value} {σ : qw_M} (hd : qw_dec (qw_yb Y) pc (.isub)) (hF : qw_F tw w K Y Q k (.isub) pc ls st σ) : qw_Ev tw w K Y Q pc ls st σ := by
  have hd := qw_dec1 hd rfl
  intro p l e s m args below meth c g C0 H locs hP hS lsA hl
  obtain ⟨hx, hb, hret, hml, hown, hts, hlk, hI, hK, hE⟩ := id C0
  obtain ⟨hgood, hwf, hcok, htok, hkok⟩ := id hok
  obtain ⟨x, y, r, rfl, h⟩ := qw_i2_inv hF
  exact lv_isub hx hb hd (hk _ _ _ _ h p l e s m args below meth c g C0 H locs hP hS lsA hl)
theorem qw_step_imul (hok : qw_ok tw w K) {k : Nat → qw_L → List Value → qw_M → Prop} (hk : qw_On tw w K Y Q k) {pc : Nat} {ls : qw_L} {st : List Value} {σ : qw_M} (hd : qw_dec (qw_yb Y) pc (.imul)) (hF : qw_F tw w K Y Q k (.imul) pc ls st σ) : qw_Ev tw w K Y Q pc ls st σ := by
  have hd := qw_dec1 hd rfl
  intro p l e s m args below meth c g C0 H locs hP hS lsA hl
  obtain ⟨hx, hb, hret, hml, hown, hts, hlk, hI, hK, hE⟩ := id C0
  obtain ⟨hgood, hwf, hcok, htok, hkok⟩ := id hok
  obtain ⟨x, y, r, rfl, h⟩ := qw_i2_inv hF
  exact lv_imul hx hb hd (hk _ _ _ _ h p l e s m args below meth c g C0 H locs hP hS lsA hl)
theorem qw_step_iand (hok : qw_ok tw w K) {k : Nat → qw_L → List Value → qw_M → Prop} (hk : qw_On tw w K Y Q k) {pc : Nat} {ls : qw_L} {st : List Value} {σ : qw_M} (hd : qw_dec (qw_yb Y) pc (.iand)) (hF : qw_F tw w K Y Q k (.iand) pc ls st σ) : qw_Ev tw w K Y Q pc ls st σ := by
  have hd := qw_dec1 hd rfl
  intro p l e s m args below meth c g C0 H locs hP hS lsA hl
  obtain ⟨hx, hb, hret, hml, hown, hts, hlk, hI, hK, hE⟩ := id C0
  obtain ⟨hgood, hwf, hcok, htok, hkok⟩ := id hok
  obtain ⟨x, y, r, rfl, h⟩ := qw_i2_inv hF
  exact lv_iand hx hb hd (hk _ _ _ _ h p l e s m args below meth c g C0 H locs hP hS lsA hl)
theorem qw_step_ior (hok : qw_ok tw w K) {k : Nat → qw_L → List Value → qw_M → Prop} (hk : qw_On tw w K Y Q k) {pc : Nat} {ls : qw_L} {st : List Value} {σ : qw_M} (hd : qw_dec (qw_yb Y) pc (.ior)) (hF : qw_F tw w K Y Q k (.ior) pc ls st σ) : qw_Ev tw w K Y Q pc ls st σ := by
  have hd := qw_dec1 hd rfl
  intro p l e s m args below meth c g C0 H locs hP hS lsA hl
  obtain ⟨hx, hb, hret, hml, hown, hts, hlk, hI, hK, hE⟩ := id C0
  obtain ⟨hgood, hwf, hcok, htok, hkok⟩ := id hok
  obtain ⟨x, y, r, rfl, h⟩ := qw_i2_inv hF
  exact lv_ior hx hb hd (hk _ _ _ _ h p l e s m args below meth c g C0 H locs hP hS lsA hl)
theorem qw_step_ixor (hok : qw_ok tw w K) {k : Nat → qw_L → List Value → qw_M → Prop} (hk : qw_On tw w K Y Q k) {pc : Nat} {ls : qw_L} {st : List Value} {σ : qw_M} (hd : qw_dec (qw_yb Y) pc (.ixor)) (hF : qw_F tw w K Y Q k (.ixor) pc ls st σ) : qw_Ev tw w K Y Q pc ls st σ := by
  have hd := qw_dec1 hd rfl
  intro p l e s m args below meth c g C0 H locs hP hS lsA hl
  obtain ⟨hx, hb, hret, hml, hown, hts, hlk, hI, hK, hE⟩ := id C0
  obtain ⟨hgood, hwf, hcok, htok, hkok⟩ := id hok
  obtain ⟨x, y, r, rfl, h⟩ := qw_i2_inv hF
  exact lv_ixor hx hb hd (hk _ _ _ _ h p l e s m args below meth c g C0 H locs hP hS lsA hl)
theorem qw_step_ishl (hok : qw_ok tw w K) {k : Nat → qw_L → List Value → qw_M → Prop} (hk : qw_On tw w K Y Q k) {pc : Nat} {ls : qw_L} {st : List Value} {σ : qw_M} (hd : qw_dec (qw_yb Y) pc (.ishl)) (hF : qw_F tw w K Y Q k (.ishl) pc ls st σ) : qw_Ev tw w K Y Q pc ls st σ := by
  have hd := qw_dec1 hd rfl
  intro p l e s m args below meth c g C0 H locs hP hS lsA hl
  obtain ⟨hx, hb, hret, hml, hown, hts, hlk, hI, hK, hE⟩ := id C0
  obtain ⟨hgood, hwf, hcok, htok, hkok⟩ := id hok
  obtain ⟨x, y, r, rfl, h⟩ := qw_i2_inv hF
  exact lv_ishl hx hb hd (hk _ _ _ _ h p l e s m args below meth c g C0 H locs hP hS lsA hl)
theorem qw_step_ishr (hok : qw_ok tw w K) {k : Nat → qw_L → List Value → qw_M → Prop} (hk : qw_On tw w K Y Q k) {pc : Nat} {ls : qw_L} {st : List Value} {σ : qw_M} (hd : qw_dec (qw_yb Y) pc (.ishr)) (hF : qw_F tw w K Y Q k (.ishr) pc ls st σ) : qw_Ev tw w K Y Q pc ls st σ := by
  have hd := qw_dec1 hd rfl
  intro p l e s m args below meth c g C0 H locs hP hS lsA hl
  obtain ⟨hx, hb, hret, hml, hown, hts, hlk, hI, hK, hE⟩ := id C0
  obtain ⟨hgood, hwf, hcok, htok, hkok⟩ := id hok
  obtain ⟨x, y, r, rfl, h⟩ := qw_i2_inv hF
  exact lv_ishr hx hb hd (hk _ _ _ _ h p l e s m args below meth c g C0 H locs hP hS lsA hl)
theorem qw_step_iushr (hok : qw_ok tw w K) {k : Nat → qw_L → List Value → qw_M → Prop} (hk : qw_On tw w K Y Q k) {pc : Nat} {ls : qw_L} {st : List Value} {σ : qw_M} (hd : qw_dec (qw_yb Y) pc (.iushr)) (hF : qw_F tw w K Y Q k (.iushr) pc ls st σ) : qw_Ev tw w K Y Q pc ls st σ := by
  have hd := qw_dec1 hd rfl
  intro p l e s m args below meth c g C0 H locs hP hS lsA hl
  obtain ⟨hx, hb, hret, hml, hown, hts, hlk, hI, hK, hE⟩ := id C0
  obtain ⟨hgood, hwf, hcok, htok, hkok⟩ := id hok
  obtain ⟨x, y, r, rfl, h⟩ := qw_i2_inv hF
  exact lv_iushr hx hb hd rfl (hk _ _ _ _ h p l e s m args below meth c g C0 H locs hP hS lsA hl)
theorem qw_step_idiv (hok : qw_ok tw w K) {k : Nat → qw_L → List Value → qw_M → Prop} (hk : qw_On tw w K Y Q k) {pc : Nat} {ls : qw_L} {st : List Value} {σ : qw_M} (hd : qw_dec (qw_yb Y) pc (.idiv)) (hF : qw_F tw w K Y Q k (.idiv) pc ls st σ) : qw_Ev tw w K Y Q pc ls st σ := by
  have hd := qw_dec1 hd rfl
  intro p l e s m args below meth c g C0 H locs hP hS lsA hl
  obtain ⟨hx, hb, hret, hml, hown, hts, hlk, hI, hK, hE⟩ := id C0
  obtain ⟨hgood, hwf, hcok, htok, hkok⟩ := id hok
  obtain ⟨x, y, r, rfl, hne, h⟩ := qw_i2_inv hF
  exact lv_idiv hx hb hd hne (hk _ _ _ _ h p l e s m args below meth c g C0 H locs hP hS lsA hl)
theorem qw_step_irem (hok : qw_ok tw w K) {k : Nat → qw_L → List Value → qw_M → Prop} (hk : qw_On tw w K Y Q k) {pc : Nat} {ls : qw_L} {st : List Value} {σ : qw_M} (hd : qw_dec (qw_yb Y) pc (.irem)) (hF : qw_F tw w K Y Q k (.irem) pc ls st σ) : qw_Ev tw w K Y Q pc ls st σ := by
  have hd := qw_dec1 hd rfl
  intro p l e s m args below meth c g C0 H locs hP hS lsA hl
  obtain ⟨hx, hb, hret, hml, hown, hts, hlk, hI, hK, hE⟩ := id C0
  obtain ⟨hgood, hwf, hcok, htok, hkok⟩ := id hok
  obtain ⟨x, y, r, rfl, hne, h⟩ := qw_i2_inv hF
  exact lv_irem hx hb hd hne (hk _ _ _ _ h p l e s m args below meth c g C0 H locs hP hS lsA hl)
theorem qw_step_ladd (hok : qw_ok tw w K) {k : Nat → qw_L → List Value → qw_M → Prop} (hk : qw_On tw w K Y Q k) {pc : Nat} {ls : qw_L} {st : List Value} {σ : qw_M} (hd : qw_dec (qw_yb Y) pc (.ladd)) (hF : qw_F tw w K Y Q k (.ladd) pc ls st σ) : qw_Ev tw w K Y Q pc ls st σ := by
  have hd := qw_dec1 hd rfl
  intro p l e s m args below meth c g C0 H locs hP hS lsA hl
  obtain ⟨hx, hb, hret, hml, hown, hts, hlk, hI, hK, hE⟩ := id C0
  obtain ⟨hgood, hwf, hcok, htok, hkok⟩ := id hok
  obtain ⟨x, y, r, rfl, h⟩ := qw_l2_inv hF
  exact lv_ladd hx hb hd (hk _ _ _ _ h p l e s m args below meth c g C0 H locs hP hS lsA hl)
theorem qw_step_lsub (hok : qw_ok tw w K) {k : Nat → qw_L → List Value → qw_M → Prop} (hk : qw_On tw w K Y Q k) {pc : Nat} {ls : qw_L} {st : List Value} {σ : qw_M} (hd : qw_dec (qw_yb Y) pc (.lsub)) (hF : qw_F tw w K Y Q k (.lsub) pc ls st σ) : qw_Ev tw w K Y Q pc ls st σ := by
  have hd := qw_dec1 hd rfl
  intro p l e s m args below meth c g C0 H locs hP hS lsA hl
  obtain ⟨hx, hb, hret, hml, hown, hts, hlk, hI, hK, hE⟩ := id C0
  obtain ⟨hgood, hwf, hcok, htok, hkok⟩ := id hok
  obtain ⟨x, y, r, rfl, h⟩ := qw_l2_inv hF
  exact lv_lsub hx hb hd (hk _ _ _ _ h p l e s m args below meth c g C0 H locs hP hS lsA hl)
theorem qw_step_lmul (hok : qw_ok tw w K) {k : Nat → qw_L → List Value → qw_M → Prop} (hk : qw_On tw w K Y Q k) {pc : Nat} {ls : qw_L} {st : List Value} {σ : qw_M} (hd : qw_dec (qw_yb Y) pc (.lmul)) (hF : qw_F tw w K Y Q k (.lmul) pc ls st σ) : qw_Ev tw w K Y Q pc ls st σ := by
  have hd := qw_dec1 hd rfl
  intro p l e s m args below meth c g C0 H locs hP hS lsA hl
  obtain ⟨hx, hb, hret, hml, hown, hts, hlk, hI, hK, hE⟩ := id C0
  obtain ⟨hgood, hwf, hcok, htok, hkok⟩ := id hok
  obtain ⟨x, y, r, rfl, h⟩ := qw_l2_inv hF
  exact lv_lmul hx hb hd (hk _ _ _ _ h p l e s m args below meth c g C0 H locs hP hS lsA hl)
theorem qw_step_lcmp (hok : qw_ok tw w K) {k : Nat → qw_L → List Value → qw_M → Prop} (hk : qw_On tw w K Y Q k) {pc : Nat} {ls : qw_L} {st : List Value} {σ : qw_M} (hd : qw_dec (qw_yb Y) pc (.lcmp)) (hF : qw_F tw w K Y Q k (.lcmp) pc ls st σ) : qw_Ev tw w K Y Q pc ls st σ := by
  have hd := qw_dec1 hd rfl
  intro p l e s m args below meth c g C0 H locs hP hS lsA hl
  obtain ⟨hx, hb, hret, hml, hown, hts, hlk, hI, hK, hE⟩ := id C0
  obtain ⟨hgood, hwf, hcok, htok, hkok⟩ := id hok
  obtain ⟨x, y, r, rfl, h⟩ := qw_l2_inv hF
  exact W.lcmp hx hb hd (hk _ _ _ _ h p l e s m args below meth c g C0 H locs hP hS lsA hl)
theorem qw_step_ldiv (hok : qw_ok tw w K) {k : Nat → qw_L → List Value → qw_M → Prop} (hk : qw_On tw w K Y Q k) {pc : Nat} {ls : qw_L} {st : List Value} {σ : qw_M} (hd : qw_dec (qw_yb Y) pc (.ldiv)) (hF : qw_F tw w K Y Q k (.ldiv) pc ls st σ) : qw_Ev tw w K Y Q pc ls st σ := by
  have hd := qw_dec1 hd rfl
  intro p l e s m args below meth c g C0 H locs hP hS lsA hl
  obtain ⟨hx, hb, hret, hml, hown, hts, hlk, hI, hK, hE⟩ := id C0
  obtain ⟨hgood, hwf, hcok, htok, hkok⟩ := id hok
  obtain ⟨x, y, r, rfl, hne, h⟩ := qw_l2_inv hF
  exact lv_ldiv hx hb hd hne (hk _ _ _ _ h p l e s m args below meth c g C0 H locs hP hS lsA hl)
theorem qw_step_lrem (hok : qw_ok tw w K) {k : Nat → qw_L → List Value → qw_M → Prop} (hk : qw_On tw w K Y Q k) {pc : Nat} {ls : qw_L} {st : List Value} {σ : qw_M} (hd : qw_dec (qw_yb Y) pc (.lrem)) (hF : qw_F tw w K Y Q k (.lrem) pc ls st σ) : qw_Ev tw w K Y Q pc ls st σ := by
  have hd := qw_dec1 hd rfl
  intro p l e s m args below meth c g C0 H locs hP hS lsA hl
  obtain ⟨hx, hb, hret, hml, hown, hts, hlk, hI, hK, hE⟩ := id C0
  obtain ⟨hgood, hwf, hcok, htok, hkok⟩ := id hok
  obtain ⟨x, y, r, rfl, hne, h⟩ := qw_l2_inv hF
  exact lv_lrem hx hb hd hne (hk _ _ _ _ h p l e s m args below meth c g C0 H locs hP hS lsA hl)
theorem qw_step_lshl (hok : qw_ok tw w K) {k : Nat → qw_L → List Value → qw_M → Prop} (hk : qw_On tw w K Y Q k) {pc : Nat} {ls : qw_L} {st : List Value} {σ : qw_M} (hd : qw_dec (qw_yb Y) pc (.lshl)) (hF : qw_F tw w K Y Q k (.lshl) pc ls st σ) : qw_Ev tw w K Y Q pc ls st σ := by
  have hd := qw_dec1 hd rfl
  intro p l e s m args below meth c g C0 H locs hP hS lsA hl
  obtain ⟨hx, hb, hret, hml, hown, hts, hlk, hI, hK, hE⟩ := id C0
  obtain ⟨hgood, hwf, hcok, htok, hkok⟩ := id hok
  dsimp only [qw_F] at hF
  split at hF <;> try exact False.elim hF
  exact lv_lshl hx hb hd rfl (hk _ _ _ _ hF p l e s m args below meth c g C0 H locs hP hS lsA hl)
theorem qw_step_i2l (hok : qw_ok tw w K) {k : Nat → qw_L → List Value → qw_M → Prop} (hk : qw_On tw w K Y Q k) {pc : Nat} {ls : qw_L} {st : List Value} {σ : qw_M} (hd : qw_dec (qw_yb Y) pc (.i2l)) (hF : qw_F tw w K Y Q k (.i2l) pc ls st σ) : qw_Ev tw w K Y Q pc ls st σ := by
  have hd := qw_dec1 hd rfl
  intro p l e s m args below meth c g C0 H locs hP hS lsA hl
  obtain ⟨hx, hb, hret, hml, hown, hts, hlk, hI, hK, hE⟩ := id C0
  obtain ⟨hgood, hwf, hcok, htok, hkok⟩ := id hok
  obtain ⟨x, r, rfl, h⟩ := qw_i1_inv hF
  exact lv_i2l hx hb hd rfl (hk _ _ _ _ h p l e s m args below meth c g C0 H locs hP hS lsA hl)
theorem qw_step_i2b (hok : qw_ok tw w K) {k : Nat → qw_L → List Value → qw_M → Prop} (hk : qw_On tw w K Y Q k) {pc : Nat} {ls : qw_L} {st : List Value} {σ : qw_M} (hd : qw_dec (qw_yb Y) pc (.i2b)) (hF : qw_F tw w K Y Q k (.i2b) pc ls st σ) : qw_Ev tw w K Y Q pc ls st σ := by
  have hd := qw_dec1 hd rfl
  intro p l e s m args below meth c g C0 H locs hP hS lsA hl
  obtain ⟨hx, hb, hret, hml, hown, hts, hlk, hI, hK, hE⟩ := id C0
  obtain ⟨hgood, hwf, hcok, htok, hkok⟩ := id hok
  obtain ⟨x, r, rfl, h⟩ := qw_i1_inv hF
  exact lv_i2b hx hb hd rfl (hk _ _ _ _ h p l e s m args below meth c g C0 H locs hP hS lsA hl)
theorem qw_step_i2s (hok : qw_ok tw w K) {k : Nat → qw_L → List Value → qw_M → Prop} (hk : qw_On tw w K Y Q k) {pc : Nat} {ls : qw_L} {st : List Value} {σ : qw_M} (hd : qw_dec (qw_yb Y) pc (.i2s)) (hF : qw_F tw w K Y Q k (.i2s) pc ls st σ) : qw_Ev tw w K Y Q pc ls st σ := by
  have hd := qw_dec1 hd rfl
  intro p l e s m args below meth c g C0 H locs hP hS lsA hl
  obtain ⟨hx, hb, hret, hml, hown, hts, hlk, hI, hK, hE⟩ := id C0
  obtain ⟨hgood, hwf, hcok, htok, hkok⟩ := id hok
  obtain ⟨x, r, rfl, h⟩ := qw_i1_inv hF
  exact lv_i2s hx hb hd rfl (hk _ _ _ _ h p l e s m args below meth c g C0 H locs hP hS lsA hl)
theorem qw_step_i2c (hok : qw_ok tw w K) {k : Nat → qw_L → List Value → qw_M → Prop} (hk : qw_On tw w K Y Q k) {pc : Nat} {ls : qw_L} {st : List Value} {σ : qw_M} (hd : qw_dec (qw_yb Y) pc (.i2c)) (hF : qw_F tw w K Y Q k (.i2c) pc ls st σ) : qw_Ev tw w K Y Q pc ls st σ := by
  have hd := qw_dec1 hd rfl
  intro p l e s m args below meth c g C0 H locs hP hS lsA hl
  obtain ⟨hx, hb, hret, hml, hown, hts, hlk, hI, hK, hE⟩ := id C0
  obtain ⟨hgood, hwf, hcok, htok, hkok⟩ := id hok
  obtain ⟨x, r, rfl, h⟩ := qw_i1_inv hF
  exact lv_i2c hx hb hd rfl (hk _ _ _ _ h p l e s m args below meth c g C0 H locs hP hS lsA hl)
theorem qw_step_dup (hok : qw_ok tw w K) {k : Nat → qw_L → List Value → qw_M → Prop} (hk : qw_On tw w K Y Q k) {pc : Nat} {ls : qw_L} {st : List Value} {σ : qw_M} (hd : qw_dec (qw_yb Y) pc (.dup)) (hF : qw_F tw w K Y Q k (.dup) pc ls st σ) : qw_Ev tw w K Y Q pc ls st σ := by
  have hd := qw_dec1 hd rfl
  intro p l e s m args below meth c g C0 H locs hP hS lsA hl
  obtain ⟨hx, hb, hret, hml, hown, hts, hlk, hI, hK, hE⟩ := id C0
  obtain ⟨hgood, hwf, hcok, htok, hkok⟩ := id hok
  dsimp only [qw_F] at hF
  split at hF <;> try exact False.elim hF
  all_goals exact lv_dup hx hb hd rfl (hk _ _ _ _ hF p l e s m args below meth c g C0 H locs hP hS lsA hl)
theorem qw_step_pop (hok : qw_ok tw w K) {k : Nat → qw_L → List Value → qw_M → Prop} (hk : qw_On tw w K Y Q k) {pc : Nat} {ls : qw_L} {st : List Value} {σ : qw_M} (hd : qw_dec (qw_yb Y) pc (.pop)) (hF : qw_F tw w K Y Q k (.pop) pc ls st σ) : qw_Ev tw w K Y Q pc ls st σ := by
  have hd := qw_dec1 hd rfl
  intro p l e s m args below meth c g C0 H locs hP hS lsA hl
  obtain ⟨hx, hb, hret, hml, hown, hts, hlk, hI, hK, hE⟩ := id C0
  obtain ⟨hgood, hwf, hcok, htok, hkok⟩ := id hok
  dsimp only [qw_F] at hF
  split at hF <;> try exact False.elim hF
  all_goals exact lv_pop hx hb hd rfl (hk _ _ _ _ hF p l e s m args below meth c g C0 H locs hP hS lsA hl)
theorem qw_step_dup2 (hok : qw_ok tw w K) {k : Nat → qw_L → List Value → qw_M → Prop} (hk : qw_On tw w K Y Q k) {pc : Nat} {ls : qw_L} {st : List Value} {σ : qw_M} (hd : qw_dec (qw_yb Y) pc (.dup2)) (hF : qw_F tw w K Y Q k (.dup2) pc ls st σ) : qw_Ev tw w K Y Q pc ls st σ := by
  have hd := qw_dec1 hd rfl
  intro p l e s m args below meth c g C0 H locs hP hS lsA hl
  obtain ⟨hx, hb, hret, hml, hown, hts, hlk, hI, hK, hE⟩ := id C0
  obtain ⟨hgood, hwf, hcok, htok, hkok⟩ := id hok
  dsimp only [qw_F] at hF
  split at hF <;> try exact False.elim hF
  all_goals exact lv_dup2_11 hx hb hd rfl rfl (hk _ _ _ _ hF p l e s m args below meth c g C0 H locs hP hS lsA hl)
theorem qw_step_goto (hok : qw_ok tw w K) {k : Nat → qw_L → List Value → qw_M → Prop} (hk : qw_On tw w K Y Q k) {pc : Nat} {ls : qw_L} {st : List Value} {σ : qw_M} {off : Int} (hd : qw_dec (qw_yb Y) pc (.goto off)) (hF : qw_F tw w K Y Q k (.goto off) pc ls st σ) : qw_Ev tw w K Y Q pc ls st σ := by
  have hd := qw_dec1 hd rfl
  intro p l e s m args below meth c g C0 H locs hP hS lsA hl
  obtain ⟨hx, hb, hret, hml, hown, hts, hlk, hI, hK, hE⟩ := id C0
  obtain ⟨hgood, hwf, hcok, htok, hkok⟩ := id hok
  obtain ⟨t, ht, h⟩ := qw_tg_inv hF
  exact lv_goto hx hb hd ht (hk _ _ _ _ h p l e s m args below meth c g C0 H locs hP hS lsA hl)
theorem qw_step_ifCond (hok : qw_ok tw w K) {k : Nat → qw_L → List Value → qw_M → Prop} (hk : qw_On tw w K Y Q k) {pc : Nat} {ls : qw_L} {st : List Value} {σ : qw_M} {cd : ClassFile.Cond} {off : Int} (hd : qw_dec (qw_yb Y) pc (.ifCond cd off)) (hF : qw_F tw w K Y Q k (.ifCond cd off) pc ls st σ) : qw_Ev tw w K Y Q pc ls st σ := by
  have hd := qw_dec1 hd rfl
  intro p l e s m args below meth c g C0 H locs hP hS lsA hl
  obtain ⟨hx, hb, hret, hml, hown, hts, hlk, hI, hK, hE⟩ := id C0
  obtain ⟨hgood, hwf, hcok, htok, hkok⟩ := id hok
  obtain ⟨t, ht, hF⟩ := qw_tg_inv hF
  obtain ⟨x, r, rfl, h⟩ := qw_i1_inv hF
  cases cd
  case eq =>
    obtain ⟨h1, h2⟩ := qw_Ev.br h (fun z => hk _ _ _ _ z p l e s m args below meth c g C0 H locs hP hS lsA hl) (fun z => hk _ _ _ _ z p l e s m args below meth c g C0 H locs hP hS lsA hl)
    exact lv_if_eq hx hb hd ht h1 h2
  case ne =>
    obtain ⟨h1, h2⟩ := qw_Ev.nb h (fun z => hk _ _ _ _ z p l e s m args below meth c g C0 H locs hP hS lsA hl) (fun z => hk _ _ _ _ z p l e s m args below meth c g C0 H locs hP hS lsA hl)
    exact lv_if_ne hx hb hd ht h1 h2
  case lt =>
    obtain ⟨h1, h2⟩ := qw_Ev.br h (fun z => hk _ _ _ _ z p l e s m args below meth c g C0 H locs hP hS lsA hl) (fun z => hk _ _ _ _ z p l e s m args below meth c g C0 H locs hP hS lsA hl)
    exact lv_if_lt hx hb hd ht h1 h2
  case ge =>
    obtain ⟨h1, h2⟩ := qw_Ev.br h (fun z => hk _ _ _ _ z p l e s m args below meth c g C0 H locs hP hS lsA hl) (fun z => hk _ _ _ _ z p l e s m args below meth c g C0 H locs hP hS lsA hl)
    exact lv_if_ge hx hb hd ht h1 h2
  case gt =>
    obtain ⟨h1, h2⟩ := qw_Ev.br h (fun z => hk _ _ _ _ z p l e s m args below meth c g C0 H locs hP hS lsA hl) (fun z => hk _ _ _ _ z p l e s m args below meth c g C0 H locs hP hS lsA hl)
    exact lv_if_gt hx hb hd ht h1 h2
  case le =>
    obtain ⟨h1, h2⟩ := qw_Ev.br h (fun z => hk _ _ _ _ z p l e s m args below meth c g C0 H locs hP hS lsA hl) (fun z => hk _ _ _ _ z p l e s m args below meth c g C0 H locs hP hS lsA hl)
    exact lv_if_le hx hb hd ht h1 h2
theorem qw_step_if_icmp (hok : qw_ok tw w K) {k : Nat → qw_L → List Value → qw_M → Prop} (hk : qw_On tw w K Y Q k) {pc : Nat} {ls : qw_L} {st : List Value} {σ : qw_M} {cd : ClassFile.Cond} {off : Int} (hd : qw_dec (qw_yb Y) pc (.if_icmp cd off)) (hF : qw_F tw w K Y Q k (.if_icmp cd off) pc ls st σ) : qw_Ev tw w K Y Q pc ls st σ := by
  have hd := qw_dec1 hd rfl
  intro p l e s m args below meth c g C0 H locs hP hS lsA hl
  obtain ⟨hx, hb, hret, hml, hown, hts, hlk, hI, hK, hE⟩ := id C0
  obtain ⟨hgood, hwf, hcok, htok, hkok⟩ := id hok
  obtain ⟨t, ht, hF⟩ := qw_tg_inv hF
  obtain ⟨x, y, r, rfl, h⟩ := qw_i2_inv hF
  cases cd
  case eq =>
    obtain ⟨h1, h2⟩ := qw_Ev.br h (fun z => hk _ _ _ _ z p l e s m args below meth c g C0 H locs hP hS lsA hl) (fun z => hk _ _ _ _ z p l e s m args below meth c g C0 H locs hP hS lsA hl)
    exact lv_icmp_eq hx hb hd ht h1 h2
  case ne =>
    obtain ⟨h1, h2⟩ := qw_Ev.nb h (fun z => hk _ _ _ _ z p l e s m args below meth c g C0 H locs hP hS lsA hl) (fun z => hk _ _ _ _ z p l e s m args below meth c g C0 H locs hP hS lsA hl)
    exact lv_icmp_ne hx hb hd ht h1 h2
  case lt =>
    obtain ⟨h1, h2⟩ := qw_Ev.br h (fun z => hk _ _ _ _ z p l e s m args below meth c g C0 H locs hP hS lsA hl) (fun z => hk _ _ _ _ z p l e s m args below meth c g C0 H locs hP hS lsA hl)
    exact lv_icmp_lt hx hb hd ht h1 h2
  case ge =>
    obtain ⟨h1, h2⟩ := qw_Ev.br h (fun z => hk _ _ _ _ z p l e s m args below meth c g C0 H locs hP hS lsA hl) (fun z => hk _ _ _ _ z p l e s m args below meth c g C0 H locs hP hS lsA hl)
    exact lv_icmp_ge hx hb hd ht h1 h2
  case gt =>
    obtain ⟨h1, h2⟩ := qw_Ev.br h (fun z => hk _ _ _ _ z p l e s m args below meth c g C0 H locs hP hS lsA hl) (fun z => hk _ _ _ _ z p l e s m args below meth c g C0 H locs hP hS lsA hl)
    exact lv_icmp_gt hx hb hd ht h1 h2
  case le =>
    obtain ⟨h1, h2⟩ := qw_Ev.br h (fun z => hk _ _ _ _ z p l e s m args below meth c g C0 H locs hP hS lsA hl) (fun z => hk _ _ _ _ z p l e s m args below meth c g C0 H locs hP hS lsA hl)
    exact lv_icmp_le hx hb hd ht h1 h2
theorem qw_step_ifnull (hok : qw_ok tw w K) {k : Nat → qw_L → List Value → qw_M → Prop} (hk : qw_On tw w K Y Q k) {pc : Nat} {ls : qw_L} {st : List Value} {σ : qw_M} {off : Int} (hd : qw_dec (qw_yb Y) pc (.ifnull off)) (hF : qw_F tw w K Y Q k (.ifnull off) pc ls st σ) : qw_Ev tw w K Y Q pc ls st σ := by
  have hd := qw_dec1 hd rfl
  intro p l e s m args below meth c g C0 H locs hP hS lsA hl
  obtain ⟨hx, hb, hret, hml, hown, hts, hlk, hI, hK, hE⟩ := id C0
  obtain ⟨hgood, hwf, hcok, htok, hkok⟩ := id hok
  obtain ⟨t, ht, hF⟩ := qw_tg_inv hF
  split at hF <;> try exact False.elim hF
  · exact lv_ifnull hx hb hd (hk _ _ _ _ hF p l e s m args below meth c g C0 H locs hP hS lsA hl)
  · exact lv_ifnullN hx hb hd ht (hk _ _ _ _ hF p l e s m args below meth c g C0 H locs hP hS lsA hl)
theorem qw_step_ifnonnull (hok : qw_ok tw w K) {k : Nat → qw_L → List Value → qw_M → Prop} (hk : qw_On tw w K Y Q k) {pc : Nat} {ls : qw_L} {st : List Value} {σ : qw_M} {off : Int} (hd : qw_dec (qw_yb Y) pc (.ifnonnull off)) (hF : qw_F tw w K Y Q k (.ifnonnull off) pc ls st σ) : qw_Ev tw w K Y Q pc ls st σ := by
  have hd := qw_dec1 hd rfl
  intro p l e s m args below meth c g C0 H locs hP hS lsA hl
  obtain ⟨hx, hb, hret, hml, hown, hts, hlk, hI, hK, hE⟩ := id C0
  obtain ⟨hgood, hwf, hcok, htok, hkok⟩ := id hok
  obtain ⟨t, ht, hF⟩ := qw_tg_inv hF
  split at hF <;> try exact False.elim hF
  · exact lv_ifnonnull hx hb hd ht (hk _ _ _ _ hF p l e s m args below meth c g C0 H locs hP hS lsA hl)
  · exact lv_ifnonnullN hx hb hd (hk _ _ _ _ hF p l e s m args below meth c g C0 H locs hP hS lsA hl)
theorem qw_step_tableswitch (hok : qw_ok tw w K) {k : Nat → qw_L → List Value → qw_M → Prop} (hk : qw_On tw w K Y Q k) {pc : Nat} {ls : qw_L} {st : List Value} {σ : qw_M} {d lo hi : Int} {offs : Array Int} (hd : qw_dec (qw_yb Y) pc (.tableswitch d lo hi offs)) (hF : qw_F tw w K Y Q k (.tableswitch d lo hi offs) pc ls st σ) : qw_Ev tw w K Y Q pc ls st σ := by
  intro p l e s m args below meth c g C0 H locs hP hS lsA hl
  obtain ⟨hx, hb, hret, hml, hown, hts, hlk, hI, hK, hE⟩ := id C0
  obtain ⟨hgood, hwf, hcok, htok, hkok⟩ := id hok
  obtain ⟨n, hd, -⟩ := hd
  obtain ⟨x, r, rfl, h1, h2, h3⟩ := qw_i1_inv hF
  by_cases hc : x.toInt < lo ∨ hi < x.toInt
  · obtain ⟨t, ht, h⟩ := qw_tg_inv (h1 hc)
    exact lv_tableOut hx hb hd hc ht (hk _ _ _ _ h p l e s m args below meth c g C0 H locs hP hS lsA hl)
  · have hc1 : ¬ x.toInt < lo := fun z => hc (Or.inl z)
    have hc2 : ¬ hi < x.toInt := fun z => hc (Or.inr z)
    have hlt : (x.toInt - lo).toNat < offs.size := by omega
    have ho : offs[(x.toInt - lo).toNat]? = some offs[(x.toInt - lo).toNat] := Array.getElem?_eq_getElem hlt
    obtain ⟨t, ht, h⟩ := qw_tg_inv (qw_sw_inv h3 (x.toInt - lo).toNat offs[(x.toInt - lo).toNat] (by rw [← Array.getElem?_toList] at ho; exact ho) (by omega))
    exact lv_tableIn hx hb hd hc1 hc2 ho ht (hk _ _ _ _ h p l e s m args below meth c g C0 H locs hP hS lsA hl)
theorem qw_step_getstatic (hok : qw_ok tw w K) {k : Nat → qw_L → List Value → qw_M → Prop} (hk : qw_On tw w K Y Q k) {pc : Nat} {ls : qw_L} {st : List Value} {σ : qw_M} {j : Nat} (hd : qw_dec (qw_yb Y) pc (.getstatic j)) (hF : qw_F tw w K Y Q k (.getstatic j) pc ls st σ) : qw_Ev tw w K Y Q pc ls st σ := by
  have hd := qw_dec1 hd rfl
  intro p l e s m args below meth c g C0 H locs hP hS lsA hl
  obtain ⟨hx, hb, hret, hml, hown, hts, hlk, hI, hK, hE⟩ := id C0
  obtain ⟨hgood, hwf, hcok, htok, hkok⟩ := id hok
  dsimp only [qw_F] at hF
  cases hq : qw_lk (qw_kg K) j with
  | none => simp only [hq] at hF
  | some q =>
    simp only [hq] at hF
    cases hz : (qw_sta w)[q]? with
    | none => simp only [hz] at hF
    | some z =>
      simp only [hz] at hF
      split at hF <;> try exact False.elim hF
      rename_i x hv
      have h1 := hE.2.2 z (List.mem_of_getElem? hz)
      rw [hv] at h1
      exact va_gets hx hb h1 hS hown (hts _ (List.mem_cons_of_mem _ (hkok.2.2.2.2.1 j q z hq hz))) (fun _ h9 => h9) hd (hk _ _ _ _ hF p l e s m args below meth c g C0 H locs hP hS lsA hl)
theorem qw_step_getfield (hok : qw_ok tw w K) {k : Nat → qw_L → List Value → qw_M → Prop} (hk : qw_On tw w K Y Q k) {pc : Nat} {ls : qw_L} {st : List Value} {σ : qw_M} {j : Nat} (hd : qw_dec (qw_yb Y) pc (.getfield j)) (hF : qw_F tw w K Y Q k (.getfield j) pc ls st σ) : qw_Ev tw w K Y Q pc ls st σ := by
  have hd := qw_dec1 hd rfl
  intro p l e s m args below meth c g C0 H locs hP hS lsA hl
  obtain ⟨hx, hb, hret, hml, hown, hts, hlk, hI, hK, hE⟩ := id C0
  obtain ⟨hgood, hwf, hcok, htok, hkok⟩ := id hok
  obtain ⟨o, r, rfl, h⟩ := qw_o1_inv hF
  cases hq : qw_lk (qw_kf K) j with
  | none => simp only [hq] at h
  | some q =>
    simp only [hq] at h
    split at h <;> try exact False.elim h
    rename_i c0 e1 e2
    split at h <;> try exact False.elim h
    rename_i v e3 e4
    obtain ⟨cc0, g1, g2, g3⟩ := hkok.1 j q hq
    obtain ⟨ws, q0, hPw, hq0⟩ := qw_cell hP hE hS (qw_lt e1)
    rw [e2] at hq0
    have e3 := Nat.eq_of_beq_eq_true e3
    obtain ⟨g4, g5, g6, g7⟩ := hcok q.1 cc0 g1
    have h8 : (c0.2.map (qw_rv g.2.1))[q.2]? = some (qw_rv g.2.1 v) := by rw [List.getElem?_map, e4]; rfl
    exact va_get hx hb hts (fun x hx => List.mem_cons_of_mem _ (g6 x hx)) hown hK hPw q0 hq0 (by rw [e3]; exact g1) q.2 g2 (hts _ (List.mem_cons_of_mem _ g3)) (fun _ h9 => h9) h8 hd (hk _ _ _ _ h p l e s m args below meth c g C0 H locs hP hS lsA hl)
theorem qw_step_putfield (hok : qw_ok tw w K) {k : Nat → qw_L → List Value → qw_M → Prop} (hk : qw_On tw w K Y Q k) {pc : Nat} {ls : qw_L} {st : List Value} {σ : qw_M} {j : Nat} (hd : qw_dec (qw_yb Y) pc (.putfield j)) (hF : qw_F tw w K Y Q k (.putfield j) pc ls st σ) : qw_Ev tw w K Y Q pc ls st σ := by
  have hd := qw_dec1 hd rfl
  intro p l e s m args below meth c g C0 H locs hP hS lsA hl
  obtain ⟨hx, hb, hret, hml, hown, hts, hlk, hI, hK, hE⟩ := id C0
  obtain ⟨hgood, hwf, hcok, htok, hkok⟩ := id hok
  dsimp only [qw_F] at hF
  cases hq : qw_lk (qw_kf K) j with
  | none => simp only [hq] at hF
  | some q =>
    simp only [hq] at hF
    split at hF <;> try exact False.elim hF
    · rename_i x o r
      split at hF <;> try exact False.elim hF
      rename_i c0 e1 e2
      split at hF <;> try exact False.elim hF
      rename_i e3 e4
      have e3 := Nat.eq_of_beq_eq_true e3
      have e4 := Nat.eq_of_beq_eq_true e4
      obtain ⟨cc0, g1, g2, g3⟩ := hkok.1 j q hq
      obtain ⟨⟨ty0, g4⟩, g5, g6, g7⟩ := hcok q.1 cc0 g1
      obtain ⟨k1, k2, k3⟩ := (g7 q.2).1 e4
      obtain ⟨k4, k5⟩ := (hwf.2 o (σ o) c0 e2 q.2).1 (by rw [e3]; exact e4)
      have hq0 := qw_ws_at (w := w) (g := g) (σ := σ) (qw_lt e1)
      rw [e2] at hq0
      refine va_put hx hb hts (fun x hx => List.mem_cons_of_mem _ (g6 x hx)) ty0 g4 g5 hown hK hP (qw_D hI) hS o hq0 (by rw [e3]; exact g1) q.2 k1 (hts _ (List.mem_cons_of_mem _ g3)) (fun _ h9 => h9) k3 k2 (v := .int x) rfl rfl (by rw [List.length_map]; exact k4) hd (fun H1 locs1 hP1 hD1 hS1 => ?_)
      exact hk _ _ _ _ hF p l e s m args below meth c g C0 H1 locs1 (qw_P.put (qw_lt e1) (by rw [k5 x]; simp only [qw_re, List.map_set]; rfl) hP1) hS1 lsA hl
    · rename_i x o r
      split at hF <;> try exact False.elim hF
      rename_i c0 e1 e2
      split at hF <;> try exact False.elim hF
      rename_i e3 e4
      have e3 := Nat.eq_of_beq_eq_true e3
      have e4 := Nat.eq_of_beq_eq_true e4
      obtain ⟨cc0, g1, g2, g3⟩ := hkok.1 j q hq
      obtain ⟨⟨ty0, g4⟩, g5, g6, g7⟩ := hcok q.1 cc0 g1
      obtain ⟨k1, k2, k3⟩ := (g7 q.2).2 e4
      obtain ⟨k4, k5⟩ := (hwf.2 o (σ o) c0 e2 q.2).2 (by rw [e3]; exact e4)
      have hq0 := qw_ws_at (w := w) (g := g) (σ := σ) (qw_lt e1)
      rw [e2] at hq0
      refine va_put hx hb hts (fun x hx => List.mem_cons_of_mem _ (g6 x hx)) ty0 g4 g5 hown hK hP (qw_D hI) hS o hq0 (by rw [e3]; exact g1) q.2 k1 (hts _ (List.mem_cons_of_mem _ g3)) (fun _ h9 => h9) k3 k2 (v := .long x) rfl rfl (by rw [List.length_map]; exact k4) hd (fun H1 locs1 hP1 hD1 hS1 => ?_)
      exact hk _ _ _ _ hF p l e s m args below meth c g C0 H1 locs1 (qw_P.put (qw_lt e1) (by rw [k5 x]; simp only [qw_re, List.map_set]; rfl) hP1) hS1 lsA hl
theorem qw_step_arraylength (hok : qw_ok tw w K) {k : Nat → qw_L → List Value → qw_M → Prop} (hk : qw_On tw w K Y Q k) {pc : Nat} {ls : qw_L} {st : List Value} {σ : qw_M} (hd : qw_dec (qw_yb Y) pc (.arraylength)) (hF : qw_F tw w K Y Q k (.arraylength) pc ls st σ) : qw_Ev tw w K Y Q pc ls st σ := by
  have hd := qw_dec1 hd rfl
  intro p l e s m args below meth c g C0 H locs hP hS lsA hl
  obtain ⟨hx, hb, hret, hml, hown, hts, hlk, hI, hK, hE⟩ := id C0
  obtain ⟨hgood, hwf, hcok, htok, hkok⟩ := id hok
  obtain ⟨o, r, rfl, h⟩ := qw_o1_inv hF
  split at h <;> try exact False.elim h
  rename_i q e1 e2
  split at h <;> try exact False.elim h
  rename_i e3
  obtain ⟨ws, q0, hPw, hq0⟩ := qw_cell hP hE hS (qw_lt e1)
  rw [e2] at hq0
  exact va_alen hx hb hK hPw q0 q.1 hq0 (qw_ts_at (qw_lt e3)) rfl hd (hk _ _ _ _ h p l e s m args below meth c g C0 H locs hP hS lsA hl)
theorem qw_step_iaload (hok : qw_ok tw w K) {k : Nat → qw_L → List Value → qw_M → Prop} (hk : qw_On tw w K Y Q k) {pc : Nat} {ls : qw_L} {st : List Value} {σ : qw_M} (hd : qw_dec (qw_yb Y) pc (.iaload)) (hF : qw_F tw w K Y Q k (.iaload) pc ls st σ) : qw_Ev tw w K Y Q pc ls st σ := by
  have hd := qw_dec1 hd rfl
  intro p l e s m args below meth c g C0 H locs hP hS lsA hl
  obtain ⟨hx, hb, hret, hml, hown, hts, hlk, hI, hK, hE⟩ := id C0
  obtain ⟨hgood, hwf, hcok, htok, hkok⟩ := id hok
  dsimp only [qw_F] at hF
  split at hF <;> try exact False.elim hF
  rename_i i o r
  split at hF <;> try exact False.elim hF
  rename_i q e1 e2
  split at hF <;> try exact False.elim hF
  rename_i e3
  obtain ⟨hin, h⟩ := hF
  have e3 := Nat.eq_of_beq_eq_true e3
  obtain ⟨ws, q0, hPw, hq0⟩ := qw_cell hP hE hS (qw_lt e1)
  rw [e2] at hq0
  exact va_iald hx hb hK hPw q0 0 (cA := g.2.2 0) (by rw [hq0]; simp only [qw_re]; rw [e3]) (by rw [qw_ts_at (Nat.lt_of_le_of_lt (Nat.zero_le _) htok.2.2.2), htok.1]) hin hd (hk _ _ _ _ h p l e s m args below meth c g C0 H locs hP hS lsA hl)
theorem qw_step_baload (hok : qw_ok tw w K) {k : Nat → qw_L → List Value → qw_M → Prop} (hk : qw_On tw w K Y Q k) {pc : Nat} {ls : qw_L} {st : List Value} {σ : qw_M} (hd : qw_dec (qw_yb Y) pc (.baload)) (hF : qw_F tw w K Y Q k (.baload) pc ls st σ) : qw_Ev tw w K Y Q pc ls st σ := by
  have hd := qw_dec1 hd rfl
  intro p l e s m args below meth c g C0 H locs hP hS lsA hl
  obtain ⟨hx, hb, hret, hml, hown, hts, hlk, hI, hK, hE⟩ := id C0
  obtain ⟨hgood, hwf, hcok, htok, hkok⟩ := id hok
  dsimp only [qw_F] at hF
  split at hF <;> try exact False.elim hF
  rename_i i o r
  split at hF <;> try exact False.elim hF
  rename_i q e1 e2
  split at hF <;> try exact False.elim hF
  rename_i e3
  obtain ⟨hin, h⟩ := hF
  have e3 := Nat.eq_of_beq_eq_true e3
  obtain ⟨ws, q0, hPw, hq0⟩ := qw_cell hP hE hS (qw_lt e1)
  rw [e2] at hq0
  exact va_bald hx hb hK hPw q0 1 (cA := g.2.2 1) (by rw [hq0]; simp only [qw_re]; rw [e3]) (by rw [qw_ts_at (Nat.lt_of_le_of_lt (by omega : 1 ≤ 2) htok.2.2.2), htok.2.1]) hin hd (hk _ _ _ _ h p l e s m args below meth c g C0 H locs hP hS lsA hl)
theorem qw_step_aaload (hok : qw_ok tw w K) {k : Nat → qw_L → List Value → qw_M → Prop} (hk : qw_On tw w K Y Q k) {pc : Nat} {ls : qw_L} {st : List Value} {σ : qw_M} (hd : qw_dec (qw_yb Y) pc (.aaload)) (hF : qw_F tw w K Y Q k (.aaload) pc ls st σ) : qw_Ev tw w K Y Q pc ls st σ := by
  have hd := qw_dec1 hd rfl
  intro p l e s m args below meth c g C0 H locs hP hS lsA hl
  obtain ⟨hx, hb, hret, hml, hown, hts, hlk, hI, hK, hE⟩ := id C0
  obtain ⟨hgood, hwf, hcok, htok, hkok⟩ := id hok
  dsimp only [qw_F] at hF
  split at hF <;> try exact False.elim hF
  rename_i i o r
  split at hF <;> try exact False.elim hF
  rename_i q e1 e2
  split at hF <;> try exact False.elim hF
  rename_i e3
  obtain ⟨hin, h1, h2⟩ := hF
  have e3 := Nat.eq_of_beq_eq_true e3
  obtain ⟨C, hC⟩ := htok.2.2.1
  have hq0 := qw_ws_at (w := w) (g := g) (σ := σ) (qw_lt e1)
  rw [e2] at hq0
  refine va_aldq hx hb hK hP o 2 (cA := g.2.2 2) (C := C) (by rw [hq0]; simp only [qw_re]; rw [e3]) (by rw [qw_ts_at htok.2.2.2, hC]) hin hd ?_
  cases hz : q.2.2 i.toNatClampNeg with
  | none =>
    have h := h2 hz
    simp only [hz, Option.map_none]
    exact hk _ _ _ _ h p l e s m args below meth c g C0 H locs hP hS lsA hl
  | some z =>
    have h := h1 z hz
    simp only [hz, Option.map_some]
    exact hk _ _ _ _ h p l e s m args below meth c g C0 H locs hP hS lsA hl
theorem qw_step_iastore (hok : qw_ok tw w K) {k : Nat → qw_L → List Value → qw_M → Prop} (hk : qw_On tw w K Y Q k) {pc : Nat} {ls : qw_L} {st : List Value} {σ : qw_M} (hd : qw_dec (qw_yb Y) pc (.iastore)) (hF : qw_F tw w K Y Q k (.iastore) pc ls st σ) : qw_Ev tw w K Y Q pc ls st σ := by
  have hd := qw_dec1 hd rfl
  intro p l e s m args below meth c g C0 H locs hP hS lsA hl
  obtain ⟨hx, hb, hret, hml, hown, hts, hlk, hI, hK, hE⟩ := id C0
  obtain ⟨hgood, hwf, hcok, htok, hkok⟩ := id hok
  dsimp only [qw_F] at hF
  split at hF <;> try exact False.elim hF
  rename_i x i o r
  split at hF <;> try exact False.elim hF
  rename_i q e1 e2
  split at hF <;> try exact False.elim hF
  rename_i e3
  obtain ⟨hin, h⟩ := hF
  have e3 := Nat.eq_of_beq_eq_true e3
  have hq0 := qw_ws_at (w := w) (g := g) (σ := σ) (qw_lt e1)
  rw [e2] at hq0
  refine va_iast hx hb hK hP (qw_D hI) hS o 0 (cA := g.2.2 0) (n := q.2) (f := (σ o).1) (by rw [hq0]; simp only [qw_re]; rw [e3]) (by rw [qw_ts_at (Nat.lt_of_le_of_lt (Nat.zero_le _) htok.2.2.2), htok.1]) hin hd (fun H1 locs1 hP1 hD1 hS1 => ?_)
  exact hk _ _ _ _ h p l e s m args below meth c g C0 H1 locs1 (qw_P.put (qw_lt e1) (by rw [hwf.1 o _ q e2]; simp only [qw_re]; rw [e3]) hP1) hS1 lsA hl
theorem qw_step_return_ (hok : qw_ok tw w K) {k : Nat → qw_L → List Value → qw_M → Prop} (hk : qw_On tw w K Y Q k) {pc : Nat} {ls : qw_L} {st : List Value} {σ : qw_M} (hd : qw_dec (qw_yb Y) pc (.return_)) (hF : qw_F tw w K Y Q k (.return_) pc ls st σ) : qw_Ev tw w K Y Q pc ls st σ := by
  have hd := qw_dec1 hd rfl
  intro p l e s m args below meth c g C0 H locs hP hS lsA hl
  obtain ⟨hx, hb, hret, hml, hown, hts, hlk, hI, hK, hE⟩ := id C0
  obtain ⟨hgood, hwf, hcok, htok, hkok⟩ := id hok
  dsimp only [qw_F] at hF
  split at hF <;> try exact False.elim hF
  cases hy : qw_yr Y with
  | some t => simp only [hy] at hF
  | none =>
    simp only [hy] at hF
    exact W.vret hx hb (hret.trans hy) (fun t ht hW => ⟨⟨none, σ, rfl, by rw [hy]; rfl, hF, by rw [ht]; exact hP⟩, hS.F ht⟩) hS.2.2 hd hlk
theorem qw_nar01 {x : Int32} (h : x = 0 ∨ x = 1) : narrow .boolean (.int x) = .int x := by
  rcases h with rfl | rfl <;> rfl
theorem qw_step_ireturn (hok : qw_ok tw w K) {k : Nat → qw_L → List Value → qw_M → Prop} (hk : qw_On tw w K Y Q k) {pc : Nat} {ls : qw_L} {st : List Value} {σ : qw_M} (hd : qw_dec (qw_yb Y) pc (.ireturn)) (hF : qw_F tw w K Y Q k (.ireturn) pc ls st σ) : qw_Ev tw w K Y Q pc ls st σ := by
  have hd := qw_dec1 hd rfl
  intro p l e s m args below meth c g C0 H locs hP hS lsA hl
  obtain ⟨hx, hb, hret, hml, hown, hts, hlk, hI, hK, hE⟩ := id C0
  obtain ⟨hgood, hwf, hcok, htok, hkok⟩ := id hok
  dsimp only [qw_F] at hF
  split at hF <;> try exact False.elim hF
  rename_i x
  split at hF <;> try exact False.elim hF
  · rename_i hy
    exact W.iret hx hb (hret.trans hy) (fun t ht hW => ⟨⟨some (.int x), σ, rfl, by rw [hy]; exact ⟨x, rfl⟩, hF, by rw [ht]; exact hP⟩, hS.F ht⟩) hS.2.2 hd hlk
  · rename_i hy
    obtain ⟨h0, hF⟩ := hF
    exact W.zret hx hb (hret.trans hy) (qw_nar01 h0) (fun t ht hW => ⟨⟨some (.int x), σ, rfl, by rw [hy]; exact h0.imp (fun z => by rw [z]) (fun z => by rw [z]), hF, by rw [ht]; exact hP⟩, hS.F ht⟩) hS.2.2 hd hlk
theorem qw_step_lreturn (hok : qw_ok tw w K) {k : Nat → qw_L → List Value → qw_M → Prop} (hk : qw_On tw w K Y Q k) {pc : Nat} {ls : qw_L} {st : List Value} {σ : qw_M} (hd : qw_dec (qw_yb Y) pc (.lreturn)) (hF : qw_F tw w K Y Q k (.lreturn) pc ls st σ) : qw_Ev tw w K Y Q pc ls st σ := by
  have hd := qw_dec1 hd rfl
  intro p l e s m args below meth c g C0 H locs hP hS lsA hl
  obtain ⟨hx, hb, hret, hml, hown, hts, hlk, hI, hK, hE⟩ := id C0
  obtain ⟨hgood, hwf, hcok, htok, hkok⟩ := id hok
  dsimp only [qw_F] at hF
  split at hF <;> try exact False.elim hF
  rename_i x
  split at hF <;> try exact False.elim hF
  rename_i hy
  exact W.lret hx hb (hret.trans hy) (fun t ht hW => ⟨⟨some (.long x), σ, rfl, by rw [hy]; exact ⟨x, rfl⟩, hF, by rw [ht]; exact hP⟩, hS.F ht⟩) hS.2.2 hd hlk
theorem qw_step_areturn (hok : qw_ok tw w K) {k : Nat → qw_L → List Value → qw_M → Prop} (hk : qw_On tw w K Y Q k) {pc : Nat} {ls : qw_L} {st : List Value} {σ : qw_M} (hd : qw_dec (qw_yb Y) pc (.areturn)) (hF : qw_F tw w K Y Q k (.areturn) pc ls st σ) : qw_Ev tw w K Y Q pc ls st σ := by
  have hd := qw_dec1 hd rfl
  intro p l e s m args below meth c g C0 H locs hP hS lsA hl
  obtain ⟨hx, hb, hret, hml, hown, hts, hlk, hI, hK, hE⟩ := id C0
  obtain ⟨hgood, hwf, hcok, htok, hkok⟩ := id hok
  dsimp only [qw_F] at hF
  split at hF <;> try exact False.elim hF
  · rename_i x
    split at hF <;> try exact False.elim hF
    rename_i C hy
    exact W.aret (v := .ref (g.2.1 x)) hx hb (hret.trans hy) (Or.inl ⟨C, rfl⟩) (Or.inr ⟨_, rfl⟩) (fun t ht hW => ⟨⟨some (.ref x), σ, rfl, by rw [hy]; exact Or.inr ⟨x, rfl⟩, hF, by rw [ht]; exact hP⟩, hS.F ht⟩) hS.2.2 hd hlk
  · split at hF <;> try exact False.elim hF
    rename_i C hy
    exact W.aret (v := .null) hx hb (hret.trans hy) (Or.inl ⟨C, rfl⟩) (Or.inl rfl) (fun t ht hW => ⟨⟨some .null, σ, rfl, by rw [hy]; exact Or.inl rfl, hF, by rw [ht]; exact hP⟩, hS.F ht⟩) hS.2.2 hd hlk
end QS3
end
section
/-! CORE 5: calls, runs, methods -/
section QS4
variable {tw : List Cond} {w : qw_Wd} {K : qw_K} {Y : qw_Y} {Q : Option Value → qw_M → Prop}
theorem qw_mapA {g : qw_Ad} (r : Option Value) (rest : List Value) : (r.toList ++ rest).map (qw_rv g.2.1) = (r.map (qw_rv g.2.1)).toList ++ rest.map (qw_rv g.2.1) := by
  cases r <;> rfl
theorem qw_catS {g : qw_Ad} (rest : List Value) : ((rest.map (qw_rv g.2.1)).map fun v => v.category).sum = (rest.map fun v => v.category).sum := by
  rw [List.map_map]
  congr 1
  apply List.map_congr_left
  intro v _
  exact qw_cat _ v
theorem qw_step_invokevirtual (hok : qw_ok tw w K) {k : Nat → qw_L → List Value → qw_M → Prop} (hk : qw_On tw w K Y Q k) {pc : Nat} {ls : qw_L} {st : List Value} {σ : qw_M} {j : Nat} (hd : qw_dec (qw_yb Y) pc (.invokevirtual j)) (hF : qw_F tw w K Y Q k (.invokevirtual j) pc ls st σ) : qw_Ev tw w K Y Q pc ls st σ := by
  have hd := qw_dec1 hd rfl
  intro p l e s m args below meth c g C0 H locs hP hS lsA hl
  obtain ⟨hx, hb, hret, hml, hown, hts, hlk, hI, hK, hE⟩ := id C0
  obtain ⟨hgood, hwf, hcok, htok, hkok⟩ := id hok
  dsimp only [qw_F] at hF
  split at hF <;> try exact False.elim hF
  rename_i ci Yc hq
  split at hF <;> try exact False.elim hF
  rename_i o r e1 e2
  split at hF <;> try exact False.elim hF
  rename_i c0 e3 e4
  split at hF <;> try exact False.elim hF
  rename_i e5
  have e5 := Nat.eq_of_beq_eq_true e5
  have e1 := Nat.le_of_ble_eq_true e1
  obtain ⟨h1, h2, h3, Qc, hM, hf⟩ := qw_cont hF
  obtain ⟨a1, a2, a3, a4, -, a5⟩ := hkok.2.1 j _ hq
  obtain ⟨a6, a7, cc0, a8, a9⟩ := a5 ci rfl
  obtain ⟨ws, q0, hPw, hq0⟩ := qw_cell hP hE hS (qw_lt e3)
  rw [e4] at hq0
  have hst : st = (st.take (qw_yp Yc)) ++ .ref o :: r := by rw [← e2, List.take_append_drop]
  have hin : ∀ x ∈ wsV (qw_kn K) j (qw_yn Yc).cls (qw_yn Yc) (qw_yc Yc :: tw), x ∈ tw := by
    intro x hx
    simp only [wsV, List.mem_append, List.mem_cons, List.not_mem_nil, or_false] at hx
    rcases hx with (rfl | rfl | rfl | rfl) | rfl | hx
    · exact a2
    · exact a6
    · exact a7
    · exact a3
    · exact a1
    · exact hx
  have hG : GoodIn (qw_yc Y :: tw) (wsV (qw_kn K) j (qw_yn Yc).cls (qw_yn Yc) (qw_yc Yc :: tw)) := fun x hx => ⟨List.mem_cons_of_mem _ (hin x hx), hgood x (hin x hx)⟩
  have hM' := hM l g hI
  refine qw_go (rest := r.map (qw_rv g.2.1)) (va_runV (As := (st.take (qw_yp Yc)).reverse.map (qw_rv g.2.1)) ⟨hx, hb, hml, hown, hts⟩ hM' (cwV (qw_yp Yc) hts hG rfl rfl rfl ⟨rfl, a4⟩ ⟨h2, h3⟩) ⟨qw_blind, ?_, fun U hU hW => ⟨rfl, by rw [hU]; exact hP, va_K.moved hW.alike hK, by rw [hU]; exact hE.to hW.alike hS⟩⟩ rfl ?_ hl.1 ?_ (lv_room (by rw [qw_catS]; exact h1)) hd ⟨Nat.le_refl 0, Nat.le_refl 0⟩) hS (fun r2 σ' H1 locs1 hsh hq2 hP1 hS1 => ?_)
  · have := va_recv hK hPw (ci := c0.1) (q := cc0) (by rw [e5]; exact a8) hq0
    rw [a9] at this
    exact this
  · simp only [List.length_map, List.length_reverse, List.length_take]
    omega
  · show st.map (qw_rv g.2.1) = _
    conv => lhs; rw [hst]
    simp only [List.map_append, List.map_cons, List.map_reverse, List.reverse_reverse]
    rfl
  · rw [← qw_mapA]
    exact hk _ _ _ _ (hf r2 σ' hsh hq2) p l e s m args below meth c g C0 H1 locs1 hP1 hS1 lsA hl
theorem qw_step_invokestatic (hok : qw_ok tw w K) {k : Nat → qw_L → List Value → qw_M → Prop} (hk : qw_On tw w K Y Q k) {pc : Nat} {ls : qw_L} {st : List Value} {σ : qw_M} {j : Nat} (hd : qw_dec (qw_yb Y) pc (.invokestatic j)) (hF : qw_F tw w K Y Q k (.invokestatic j) pc ls st σ) : qw_Ev tw w K Y Q pc ls st σ := by
  have hd := qw_dec1 hd rfl
  intro p l e s m args below meth c g C0 H locs hP hS lsA hl
  obtain ⟨hx, hb, hret, hml, hown, hts, hlk, hI, hK, hE⟩ := id C0
  obtain ⟨hgood, hwf, hcok, htok, hkok⟩ := id hok
  dsimp only [qw_F] at hF
  split at hF <;> try exact False.elim hF
  · rename_i Yc hq
    split at hF <;> try exact False.elim hF
    rename_i e1
    have e1 := Nat.le_of_ble_eq_true e1
    obtain ⟨h1, h2, h3, Qc, hM, hf⟩ := qw_cont hF
    obtain ⟨a1, a2, a3, a4, a5, -⟩ := hkok.2.1 j _ hq
    have a5 := a5 rfl
    have hst : st = (st.take (qw_yp Yc)) ++ st.drop (qw_yp Yc) := by rw [List.take_append_drop]
    have hin : ∀ x ∈ va_wsS (qw_kn K) j (qw_yn Yc) (qw_yc Yc :: tw), x ∈ tw := by
      intro x hx
      simp only [va_wsS, List.mem_append, List.mem_cons, List.not_mem_nil, or_false] at hx
      rcases hx with (rfl | rfl | rfl) | rfl | hx
      · exact a2
      · exact a5
      · exact a3
      · exact a1
      · exact hx
    have hG : GoodIn (qw_yc Y :: tw) (va_wsS (qw_kn K) j (qw_yn Yc) (qw_yc Yc :: tw)) := fun x hx => ⟨List.mem_cons_of_mem _ (hin x hx), hgood x (hin x hx)⟩
    have hM' := hM l g hI
    refine qw_go (rest := (st.drop (qw_yp Yc)).map (qw_rv g.2.1)) (va_runS (As := (st.take (qw_yp Yc)).reverse.map (qw_rv g.2.1)) ⟨hx, hb, hml, hown, hts⟩ hM' (va_cwS (qw_yp Yc) hts hG rfl rfl rfl a4 ⟨h2, h3⟩) ⟨qw_blind, fun U hU hW => ⟨rfl, by rw [hU]; exact hP, va_K.moved hW.alike hK, by rw [hU]; exact hE.to hW.alike hS⟩⟩ rfl ?_ hl.1 ?_ (lv_room (by rw [qw_catS]; exact h1)) hd ⟨Nat.le_refl 0, Nat.le_refl 0⟩) hS (fun r2 σ' H1 locs1 hsh hq2 hP1 hS1 => ?_)
    · simp only [List.length_map, List.length_reverse, List.length_take]
      omega
    · show st.map (qw_rv g.2.1) = _
      conv => lhs; rw [hst]
      simp only [List.map_append, List.map_reverse, List.reverse_reverse]
    · rw [← qw_mapA]
      exact hk _ _ _ _ (hf r2 σ' hsh hq2) p l e s m args below meth c g C0 H1 locs1 hP1 hS1 lsA hl
  · split at hF <;> try exact False.elim hF
    rename_i n dp o sp o0 e0
    split at hF <;> try exact False.elim hF
    rename_i q q0 e1 e2 e3 e4
    split at hF <;> try exact False.elim hF
    rename_i e5 e6
    have e5 := Nat.eq_of_beq_eq_true e5
    have e6 := Nat.eq_of_beq_eq_true e6
    obtain ⟨⟨b1, b2, b3, b4, b5⟩, ⟨b6, b7⟩, h⟩ := hF
    obtain ⟨a1, a2, a3, a4⟩ := hkok.2.2.2.2.2 j e0
    have hq := qw_ws_at (w := w) (g := g) (σ := σ) (qw_lt e1)
    rw [e3] at hq
    have hq0 := qw_ws_at (w := w) (g := g) (σ := σ) (qw_lt e2)
    rw [e4] at hq0
    have ht0 : (qw_ts w g)[0]? = some (g.2.2 0, FieldType.int) := by rw [qw_ts_at (Nat.lt_of_le_of_lt (Nat.zero_le _) htok.2.2.2), htok.1]
    refine va_copyi hx hb (hml.trans hl.1.symm) hown (hts _ (List.mem_cons_of_mem _ a1)) (hts _ (List.mem_cons_of_mem _ a2)) (hts _ (List.mem_cons_of_mem _ a3)) (hts _ (List.mem_cons_of_mem _ a4)) hK hP (qw_D hI) hS o0 o 0 0 (c0 := g.2.2 0) (c1 := g.2.2 0) (n0 := q0.2) (n1 := q.2) (f := (σ o0).1) (g := (σ o).1) (ty := .int) (by rw [hq0]; simp only [qw_re]; rw [e6]) (by rw [hq]; simp only [qw_re]; rw [e5]) ht0 ht0 rfl b1 b2 b3 b4 b5 (fun _ _ => rfl) b6 (by simpa using b7) hd (fun H1 locs1 hP1 hD1 hS1 => ?_)
    exact hk _ _ _ _ h p l e s m args below meth c g C0 H1 locs1 (qw_P.put (qw_lt e1) (by rw [hwf.1 o _ q e3]; simp only [qw_re]; rw [e5]) hP1) hS1 lsA hl
theorem qw_step (hok : qw_ok tw w K) {k : Nat → qw_L → List Value → qw_M → Prop} (hk : qw_On tw w K Y Q k) {i : Instr} {pc : Nat} {ls : qw_L} {st : List Value} {σ : qw_M} (hd : qw_dec (qw_yb Y) pc i) (hF : qw_F tw w K Y Q k i pc ls st σ) : qw_Ev tw w K Y Q pc ls st σ := by
  cases i
  case iconst => exact qw_step_iconst hok hk hd hF
  case bipush => exact qw_step_bipush hok hk hd hF
  case sipush => exact qw_step_sipush hok hk hd hF
  case lconst => exact qw_step_lconst hok hk hd hF
  case aconst_null => exact qw_step_aconst_null hok hk hd hF
  case ldc => exact qw_step_ldc hok hk hd hF
  case ldc_w => exact qw_step_ldc_w hok hk hd hF
  case ldc2_w => exact qw_step_ldc2_w hok hk hd hF
  case iload_n => exact qw_step_iload_n hok hk hd hF
  case lload_n => exact qw_step_lload_n hok hk hd hF
  case iload => exact qw_step_iload hok hk hd hF
  case lload => exact qw_step_lload hok hk hd hF
  case aload_n => exact qw_step_aload_n hok hk hd hF
  case aload => exact qw_step_aload hok hk hd hF
  case istore_n => exact qw_step_istore_n hok hk hd hF
  case istore => exact qw_step_istore hok hk hd hF
  case lstore_n => exact qw_step_lstore_n hok hk hd hF
  case lstore => exact qw_step_lstore hok hk hd hF
  case astore_n => exact qw_step_astore_n hok hk hd hF
  case astore => exact qw_step_astore hok hk hd hF
  case iinc => exact qw_step_iinc hok hk hd hF
  case iadd => exact qw_step_iadd hok hk hd hF
  case isub => exact qw_step_isub hok hk hd hF
  case imul => exact qw_step_imul hok hk hd hF
  case iand => exact qw_step_iand hok hk hd hF
  case ior => exact qw_step_ior hok hk hd hF
  case ixor => exact qw_step_ixor hok hk hd hF
  case ishl => exact qw_step_ishl hok hk hd hF
  case ishr => exact qw_step_ishr hok hk hd hF
  case iushr => exact qw_step_iushr hok hk hd hF
  case idiv => exact qw_step_idiv hok hk hd hF
  case irem => exact qw_step_irem hok hk hd hF
  case ladd => exact qw_step_ladd hok hk hd hF
  case lsub => exact qw_step_lsub hok hk hd hF
  case lmul => exact qw_step_lmul hok hk hd hF
  case lcmp => exact qw_step_lcmp hok hk hd hF
  case ldiv => exact qw_step_ldiv hok hk hd hF
  case lrem => exact qw_step_lrem hok hk hd hF
  case lshl => exact qw_step_lshl hok hk hd hF
  case i2l => exact qw_step_i2l hok hk hd hF
  case i2b => exact qw_step_i2b hok hk hd hF
  case i2s => exact qw_step_i2s hok hk hd hF
  case i2c => exact qw_step_i2c hok hk hd hF
  case dup => exact qw_step_dup hok hk hd hF
  case pop => exact qw_step_pop hok hk hd hF
  case dup2 => exact qw_step_dup2 hok hk hd hF
  case goto => exact qw_step_goto hok hk hd hF
  case ifCond => exact qw_step_ifCond hok hk hd hF
  case if_icmp => exact qw_step_if_icmp hok hk hd hF
  case ifnull => exact qw_step_ifnull hok hk hd hF
  case ifnonnull => exact qw_step_ifnonnull hok hk hd hF
  case tableswitch => exact qw_step_tableswitch hok hk hd hF
  case getstatic => exact qw_step_getstatic hok hk hd hF
  case getfield => exact qw_step_getfield hok hk hd hF
  case putfield => exact qw_step_putfield hok hk hd hF
  case arraylength => exact qw_step_arraylength hok hk hd hF
  case iaload => exact qw_step_iaload hok hk hd hF
  case baload => exact qw_step_baload hok hk hd hF
  case aaload => exact qw_step_aaload hok hk hd hF
  case iastore => exact qw_step_iastore hok hk hd hF
  case return_ => exact qw_step_return_ hok hk hd hF
  case ireturn => exact qw_step_ireturn hok hk hd hF
  case lreturn => exact qw_step_lreturn hok hk hd hF
  case areturn => exact qw_step_areturn hok hk hd hF
  case invokevirtual => exact qw_step_invokevirtual hok hk hd hF
  case invokestatic => exact qw_step_invokestatic hok hk hd hF
  all_goals exact False.elim hF
theorem qw_find_mem : ∀ {code : List (Nat × Instr)} {pc : Nat} {q : Nat × Instr}, q ∈ qw_find code pc → q ∈ code
  | [], pc, q, h => by simp [qw_find] at h
  | x :: l, pc, q, h => by
    unfold qw_find at h
    split at h
    · exact h
    · exact List.mem_cons_of_mem _ (qw_find_mem h)
theorem qw_nx_mem {code rest : List (Nat × Instr)} {pc : Nat} (hr : ∀ q ∈ rest, q ∈ code) : ∀ q ∈ qw_nx code rest pc, q ∈ code := by
  intro q h
  unfold qw_nx at h
  split at h
  · exact qw_find_mem h
  · split at h
    · exact hr q h
    · exact qw_find_mem h
/-- RUNS -/
theorem qw_runs (hok : qw_ok tw w K) {code : List (Nat × Instr)} (hcode : ∀ q ∈ code, qw_dec (qw_yb Y) q.1 q.2) {cut : List Nat} : ∀ (n : Nat) (pc : Nat) (rest : List (Nat × Instr)) (ls : qw_L) (st : List Value) (σ : qw_M), (∀ q ∈ rest, q ∈ code) → qw_run tw w K Y code cut Q (qw_Ev tw w K Y Q) n pc rest ls st σ → qw_Ev tw w K Y Q pc ls st σ
  | 0, pc, rest, ls, st, σ, _, h => h
  | n + 1, pc, [], ls, st, σ, _, h => h
  | n + 1, pc, q :: tl, ls, st, σ, hr, h => by
    unfold qw_run at h
    dsimp only at h
    split at h
    · exact h
    · rename_i hb
      have hb := Nat.eq_of_beq_eq_true hb
      have hd := hcode q (hr q List.mem_cons_self)
      rw [hb] at hd
      refine qw_step hok (fun pc' ls' st' σ' h' => ?_) hd h
      split at h'
      · exact h'
      · exact qw_runs hok hcode n pc' _ ls' st' σ' (qw_nx_mem (fun x hx => hr x (List.mem_cons_of_mem _ hx))) h'
/-- fewer locals, in another order -/
theorem qw_Ev.sub {pc : Nat} {ls ls' : qw_L} {st : List Value} {σ : qw_M} (h : qw_Ev tw w K Y Q pc ls' st σ) (hs : ∀ q ∈ ls', q ∈ ls) : qw_Ev tw w K Y Q pc ls st σ := by
  intro p l e s m args below meth c g C0 H locs hP hS lsA hl
  refine h p l e s m args below meth c g C0 H locs hP hS lsA ⟨hl.1, hl.2.1, fun q hq => ?_⟩
  obtain ⟨q0, h1, rfl⟩ := List.mem_map.mp hq
  exact hl.2.2 _ (List.mem_map.mpr ⟨q0, hs q0 h1, rfl⟩)
theorem qw_lma (a : Nat → Nat) : ∀ (av : List Value) (i : Nat), lv_args i (av.map (qw_rv a)) = qw_lm a (lv_args i av)
  | [], i => rfl
  | v :: av, i => by
    show (i, qw_rv a v) :: lv_args (if (qw_rv a v).category = 2 then i + 2 else i + 1) (av.map (qw_rv a)) = (i, qw_rv a v) :: qw_lm a (lv_args (if v.category = 2 then i + 2 else i + 1) av)
    rw [qw_cat, qw_lma a av]
theorem qw_sll (a : Nat → Nat) (av : List Value) : (lg_sl (av.map (qw_rv a))).length = (lg_sl av).length := by
  induction av with
  | nil => rfl
  | cons v av ih =>
    unfold lg_sl at ih ⊢
    simp only [List.map_cons, List.flatMap_cons, List.length_append, qw_cat, ih]
    by_cases h : v.category = 2 <;> simp [h]
/-- A METHOD -/
theorem qw_Mt.of (hcls : (qw_yn Y).cls = qw_kn K) (hpl : plainFor (qw_yn Y) = true) {av : List Value} {σ : qw_M} (hn : Nat.ble (lg_sl av).length (qw_ym Y) = true) (h : qw_Ev tw w K Y Q 0 (lv_args 0 av) [] σ) : qw_Mt tw w Y av σ Q := by
  intro l g hI
  refine va_MetF (cc := qw_yb Y) (maxL := qw_ym Y) (ret := qw_yr Y) hpl rfl ?_
  intro p e s m args below meth c s₁ B hml hv
  obtain ⟨rfl, hP, hK, hE⟩ := hv
  have hown : s.vm.findClass (qw_kn K) = some m.cls := by rw [← hcls]; exact findClass_of_methodNamed B.named
  have hl := lv_entry (av.map (qw_rv g.2.1)) (n := qw_ym Y) (by rw [qw_sll]; exact Nat.le_of_ble_eq_true hn)
  rw [lg_entry_eq]
  rw [qw_lma] at hl
  exact h p l e s m _ below meth c g ⟨B.exec, B.bytes, B.returns, hml, hown, atoms_spec (ws := qw_yc Y :: tw) B.pre, B.notSynchronized, hI, hK, hE⟩ s.heap [] hP va_S.rf _ hl
theorem qw_Z.mono {g : qw_Ad} {Q2 : Option Value → qw_M → Prop} (h : ∀ r σ, Q r σ → Q2 r σ) {a : Array Value} {s t : State} {o : Outcome} (hz : qw_Z w g Y Q a s o t) : qw_Z w g Y Q2 a s o t := by
  obtain ⟨⟨r, σ', h1, h2, h3, h4⟩, h5⟩ := hz
  exact ⟨⟨r, σ', h1, h2, h r σ' h3, h4⟩, h5⟩
end QS4
end
