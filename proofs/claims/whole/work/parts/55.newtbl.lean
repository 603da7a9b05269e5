/-! CONSTRUCTORS: words, bytes, small worlds (printed by wip/whole/gen55.py) -/
theorem tz_95 : Jvm.Cond.classLink "ShadowTheatreLaw" (7 : Nat) "ShadowTheatre" ∈ qw_tw := qw_in1 22 rfl rfl
theorem tz_96 : Jvm.Cond.instantiable "ShadowTheatre" (9 : Nat) ∈ qw_tw := qw_in1 23 rfl rfl
theorem tz_97 : Jvm.Cond.methodLink "ShadowTheatreLaw" (9 : Nat) ({ cls := "ShadowTheatre", name := "<init>", desc := "()V" } : Jvm.MethodName) ∈ qw_tw := qw_in1 24 rfl rfl
theorem tz_98 : Jvm.Cond.instanceMethod ({ cls := "ShadowTheatre", name := "<init>", desc := "()V" } : Jvm.MethodName) ∈ qw_tw := qw_in1 25 rfl rfl
theorem tz_99 : Jvm.Cond.code ({ cls := "ShadowTheatre", name := "<init>", desc := "()V" } : Jvm.MethodName) prog_1_method_1_code (2 : Nat) (Option.none : Option Jvm.ClassFile.FieldType) ∈ qw_tw := qw_in1 26 rfl rfl
theorem tz_100 : Jvm.Cond.methodLink "ShadowTheatre" (3 : Nat) ({ cls := "java/lang/Object", name := "<init>", desc := "()V" } : Jvm.MethodName) ∈ qw_tw := qw_in1 27 rfl rfl
theorem tz_101 : Jvm.Cond.instanceMethod ({ cls := "java/lang/Object", name := "<init>", desc := "()V" } : Jvm.MethodName) ∈ qw_tw := qw_in1 28 rfl rfl
theorem tz_102 : Jvm.Cond.code ({ cls := "java/lang/Object", name := "<init>", desc := "()V" } : Jvm.MethodName) object_method_1_code (1 : Nat) (Option.none : Option Jvm.ClassFile.FieldType) ∈ qw_tw := qw_in1 29 rfl rfl
theorem tz_103 : Jvm.Cond.classLink "ShadowTheatre" (9 : Nat) "ShadowTheatre$Row" ∈ qw_tw := qw_in1 30 rfl rfl
theorem tz_104 : Jvm.Cond.instantiable "ShadowTheatre$Row" (2 : Nat) ∈ qw_tw := qw_in1 31 rfl rfl
theorem tz_105 : Jvm.Cond.methodLink "ShadowTheatre" (11 : Nat) ({ cls := "ShadowTheatre$Row", name := "<init>", desc := "(I)V" } : Jvm.MethodName) ∈ qw_tw := qw_in1 32 rfl rfl
theorem tz_106 : Jvm.Cond.instanceMethod ({ cls := "ShadowTheatre$Row", name := "<init>", desc := "(I)V" } : Jvm.MethodName) ∈ qw_tw := qw_in1 33 rfl rfl
theorem tz_107 : Jvm.Cond.code ({ cls := "ShadowTheatre$Row", name := "<init>", desc := "(I)V" } : Jvm.MethodName) prog_7_method_1_code (2 : Nat) (Option.none : Option Jvm.ClassFile.FieldType) ∈ qw_tw := qw_in1 34 rfl rfl
theorem tz_108 : Jvm.Cond.methodLink "ShadowTheatre$Row" (3 : Nat) ({ cls := "java/lang/Object", name := "<init>", desc := "()V" } : Jvm.MethodName) ∈ qw_tw := qw_in1 35 rfl rfl
theorem tz_125 : Jvm.Cond.arrayClass Jvm.ClassFile.FieldType.int ∈ qw_tw := qw_in1 52 rfl rfl
theorem tz_126 : Jvm.Cond.classLink "ShadowTheatre" (24 : Nat) "ShadowTheatre$Show" ∈ qw_tw := qw_in1 53 rfl rfl
theorem tz_127 : Jvm.Cond.instantiable "ShadowTheatre$Show" (6 : Nat) ∈ qw_tw := qw_in1 54 rfl rfl
theorem tz_129 : Jvm.Cond.instanceMethod ({ cls := "ShadowTheatre$Show", name := "<init>", desc := "()V" } : Jvm.MethodName) ∈ qw_tw := qw_in1 56 rfl rfl
theorem tz_130 : Jvm.Cond.code ({ cls := "ShadowTheatre$Show", name := "<init>", desc := "()V" } : Jvm.MethodName) prog_9_method_1_code (1 : Nat) (Option.none : Option Jvm.ClassFile.FieldType) ∈ qw_tw := qw_in1 57 rfl rfl
theorem tz_131 : Jvm.Cond.methodLink "ShadowTheatre$Show" (3 : Nat) ({ cls := "java/lang/Object", name := "<init>", desc := "()V" } : Jvm.MethodName) ∈ qw_tw := qw_in1 58 rfl rfl
theorem tz_132 : Jvm.Cond.classLink "ShadowTheatre$Show" (9 : Nat) "ShadowTheatre$Troupe" ∈ qw_tw := qw_in1 59 rfl rfl
theorem tz_133 : Jvm.Cond.instantiable "ShadowTheatre$Troupe" (7 : Nat) ∈ qw_tw := qw_in1 60 rfl rfl
theorem tz_135 : Jvm.Cond.instanceMethod ({ cls := "ShadowTheatre$Troupe", name := "<init>", desc := "()V" } : Jvm.MethodName) ∈ qw_tw := qw_in1 62 rfl rfl
theorem tz_136 : Jvm.Cond.code ({ cls := "ShadowTheatre$Troupe", name := "<init>", desc := "()V" } : Jvm.MethodName) prog_11_method_1_code (1 : Nat) (Option.none : Option Jvm.ClassFile.FieldType) ∈ qw_tw := qw_in1 63 rfl rfl
theorem tz_137 : Jvm.Cond.methodLink "ShadowTheatre$Troupe" (3 : Nat) ({ cls := "java/lang/Object", name := "<init>", desc := "()V" } : Jvm.MethodName) ∈ qw_tw := qw_in1 64 rfl rfl
theorem tz_171 : Jvm.Cond.classLink "ShadowTheatre$Show" (18 : Nat) "ShadowTheatre$Cues" ∈ qw_tw := qw_in1 98 rfl rfl
theorem tz_172 : Jvm.Cond.instantiable "ShadowTheatre$Cues" (4 : Nat) ∈ qw_tw := qw_in1 99 rfl rfl
theorem tz_174 : Jvm.Cond.instanceMethod ({ cls := "ShadowTheatre$Cues", name := "<init>", desc := "()V" } : Jvm.MethodName) ∈ qw_tw := qw_in1 101 rfl rfl
theorem tz_175 : Jvm.Cond.code ({ cls := "ShadowTheatre$Cues", name := "<init>", desc := "()V" } : Jvm.MethodName) prog_3_method_1_code (1 : Nat) (Option.none : Option Jvm.ClassFile.FieldType) ∈ qw_tw := qw_in1 102 rfl rfl
theorem tz_176 : Jvm.Cond.methodLink "ShadowTheatre$Cues" (3 : Nat) ({ cls := "java/lang/Object", name := "<init>", desc := "()V" } : Jvm.MethodName) ∈ qw_tw := qw_in1 103 rfl rfl
theorem tz_191 : Jvm.Cond.classLink "ShadowTheatre$Show" (25 : Nat) "ShadowTheatre$Picture" ∈ qw_tw := qw_in1 118 rfl rfl
theorem tz_192 : Jvm.Cond.instantiable "ShadowTheatre$Picture" (3 : Nat) ∈ qw_tw := qw_in1 119 rfl rfl
theorem tz_194 : Jvm.Cond.instanceMethod ({ cls := "ShadowTheatre$Picture", name := "<init>", desc := "()V" } : Jvm.MethodName) ∈ qw_tw := qw_in1 121 rfl rfl
theorem tz_195 : Jvm.Cond.code ({ cls := "ShadowTheatre$Picture", name := "<init>", desc := "()V" } : Jvm.MethodName) prog_5_method_1_code (1 : Nat) (Option.none : Option Jvm.ClassFile.FieldType) ∈ qw_tw := qw_in1 122 rfl rfl
theorem tz_196 : Jvm.Cond.methodLink "ShadowTheatre$Picture" (3 : Nat) ({ cls := "java/lang/Object", name := "<init>", desc := "()V" } : Jvm.MethodName) ∈ qw_tw := qw_in1 123 rfl rfl
theorem tz_197 : Jvm.Cond.classLink "ShadowTheatre$Picture" (9 : Nat) "ShadowTheatre$Glow" ∈ qw_tw := qw_in1 124 rfl rfl
theorem tz_198 : Jvm.Cond.instantiable "ShadowTheatre$Glow" (3 : Nat) ∈ qw_tw := qw_in1 125 rfl rfl
theorem tz_200 : Jvm.Cond.instanceMethod ({ cls := "ShadowTheatre$Glow", name := "<init>", desc := "()V" } : Jvm.MethodName) ∈ qw_tw := qw_in1 127 rfl rfl
theorem tz_201 : Jvm.Cond.code ({ cls := "ShadowTheatre$Glow", name := "<init>", desc := "()V" } : Jvm.MethodName) prog_4_method_1_code (1 : Nat) (Option.none : Option Jvm.ClassFile.FieldType) ∈ qw_tw := qw_in1 128 rfl rfl
theorem tz_202 : Jvm.Cond.methodLink "ShadowTheatre$Glow" (3 : Nat) ({ cls := "java/lang/Object", name := "<init>", desc := "()V" } : Jvm.MethodName) ∈ qw_tw := qw_in1 129 rfl rfl
theorem tz_228 : Jvm.Cond.classLink "ShadowTheatre$Show" (32 : Nat) "ShadowTheatre$Row" ∈ qw_tw := qw_in1 155 rfl rfl
theorem tz_229 : Jvm.Cond.methodLink "ShadowTheatre$Show" (34 : Nat) ({ cls := "ShadowTheatre$Row", name := "<init>", desc := "(I)V" } : Jvm.MethodName) ∈ qw_tw := qw_in1 156 rfl rfl
theorem tz_230 : Jvm.Cond.classLink "ShadowTheatre$Show" (41 : Nat) "ShadowTheatre$Stage" ∈ qw_tw := qw_in1 157 rfl rfl
theorem tz_231 : Jvm.Cond.instantiable "ShadowTheatre$Stage" (9 : Nat) ∈ qw_tw := qw_in1 158 rfl rfl
theorem tz_232 : Jvm.Cond.methodLink "ShadowTheatre$Show" (43 : Nat) ({ cls := "ShadowTheatre$Stage", name := "<init>", desc := "(LShadowTheatre$Troupe;)V" } : Jvm.MethodName) ∈ qw_tw := qw_in1 159 rfl rfl
theorem tz_233 : Jvm.Cond.instanceMethod ({ cls := "ShadowTheatre$Stage", name := "<init>", desc := "(LShadowTheatre$Troupe;)V" } : Jvm.MethodName) ∈ qw_tw := qw_in1 160 rfl rfl
theorem tz_234 : Jvm.Cond.code ({ cls := "ShadowTheatre$Stage", name := "<init>", desc := "(LShadowTheatre$Troupe;)V" } : Jvm.MethodName) prog_10_method_1_code (6 : Nat) (Option.none : Option Jvm.ClassFile.FieldType) ∈ qw_tw := qw_in1 161 rfl rfl
theorem tz_235 : Jvm.Cond.methodLink "ShadowTheatre$Stage" (3 : Nat) ({ cls := "java/lang/Object", name := "<init>", desc := "()V" } : Jvm.MethodName) ∈ qw_tw := qw_in1 162 rfl rfl
theorem tz_236 : Jvm.Cond.classLink "ShadowTheatre$Stage" (30 : Nat) "ShadowTheatre$Glow" ∈ qw_tw := qw_in1 163 rfl rfl
theorem tz_307 : Jvm.Cond.classLink "ShadowTheatre" (31 : Nat) "ShadowTheatre$Planner" ∈ qw_tw := qw_in1 234 rfl rfl
theorem tz_308 : Jvm.Cond.instantiable "ShadowTheatre$Planner" (6 : Nat) ∈ qw_tw := qw_in1 235 rfl rfl
theorem tz_309 : Jvm.Cond.methodLink "ShadowTheatre" (33 : Nat) ({ cls := "ShadowTheatre$Planner", name := "<init>", desc := "(LShadowTheatre$Show;)V" } : Jvm.MethodName) ∈ qw_tw := qw_in1 236 rfl rfl
theorem tz_310 : Jvm.Cond.instanceMethod ({ cls := "ShadowTheatre$Planner", name := "<init>", desc := "(LShadowTheatre$Show;)V" } : Jvm.MethodName) ∈ qw_tw := qw_in1 237 rfl rfl
theorem tz_311 : Jvm.Cond.code ({ cls := "ShadowTheatre$Planner", name := "<init>", desc := "(LShadowTheatre$Show;)V" } : Jvm.MethodName) prog_6_method_1_code (2 : Nat) (Option.none : Option Jvm.ClassFile.FieldType) ∈ qw_tw := qw_in1 238 rfl rfl
theorem tz_312 : Jvm.Cond.methodLink "ShadowTheatre$Planner" (3 : Nat) ({ cls := "java/lang/Object", name := "<init>", desc := "()V" } : Jvm.MethodName) ∈ qw_tw := qw_in1 239 rfl rfl
theorem tz_313 : Jvm.Cond.classLink "ShadowTheatre$Planner" (9 : Nat) "ShadowTheatre$Glow" ∈ qw_tw := qw_in2 0 rfl rfl
theorem tz_334 : Jvm.Cond.classLink "ShadowTheatre" (40 : Nat) "ShadowTheatre$Witness" ∈ qw_tw := qw_in2 21 rfl rfl
theorem tz_335 : Jvm.Cond.instantiable "ShadowTheatre$Witness" (4 : Nat) ∈ qw_tw := qw_in2 22 rfl rfl
theorem tz_336 : Jvm.Cond.methodLink "ShadowTheatre" (42 : Nat) ({ cls := "ShadowTheatre$Witness", name := "<init>", desc := "(LShadowTheatre$Show;)V" } : Jvm.MethodName) ∈ qw_tw := qw_in2 23 rfl rfl
theorem tz_337 : Jvm.Cond.instanceMethod ({ cls := "ShadowTheatre$Witness", name := "<init>", desc := "(LShadowTheatre$Show;)V" } : Jvm.MethodName) ∈ qw_tw := qw_in2 24 rfl rfl
theorem tz_338 : Jvm.Cond.code ({ cls := "ShadowTheatre$Witness", name := "<init>", desc := "(LShadowTheatre$Show;)V" } : Jvm.MethodName) prog_12_method_1_code (2 : Nat) (Option.none : Option Jvm.ClassFile.FieldType) ∈ qw_tw := qw_in2 25 rfl rfl
theorem tz_339 : Jvm.Cond.methodLink "ShadowTheatre$Witness" (3 : Nat) ({ cls := "java/lang/Object", name := "<init>", desc := "()V" } : Jvm.MethodName) ∈ qw_tw := qw_in2 26 rfl rfl
theorem tz_340 : Jvm.Cond.classLink "ShadowTheatre$Witness" (9 : Nat) "ShadowTheatre$Row" ∈ qw_tw := qw_in2 27 rfl rfl
theorem tz_341 : Jvm.Cond.methodLink "ShadowTheatre$Witness" (11 : Nat) ({ cls := "ShadowTheatre$Row", name := "<init>", desc := "(I)V" } : Jvm.MethodName) ∈ qw_tw := qw_in2 28 rfl rfl
theorem tz_356 : Jvm.Cond.classLink "ShadowTheatre" (47 : Nat) "ShadowTheatre$Chance" ∈ qw_tw := qw_in2 43 rfl rfl
theorem tz_357 : Jvm.Cond.instantiable "ShadowTheatre$Chance" (4 : Nat) ∈ qw_tw := qw_in2 44 rfl rfl
theorem tz_358 : Jvm.Cond.methodLink "ShadowTheatre" (49 : Nat) ({ cls := "ShadowTheatre$Chance", name := "<init>", desc := "(LShadowTheatre$Show;)V" } : Jvm.MethodName) ∈ qw_tw := qw_in2 45 rfl rfl
theorem tz_359 : Jvm.Cond.instanceMethod ({ cls := "ShadowTheatre$Chance", name := "<init>", desc := "(LShadowTheatre$Show;)V" } : Jvm.MethodName) ∈ qw_tw := qw_in2 46 rfl rfl
theorem tz_360 : Jvm.Cond.code ({ cls := "ShadowTheatre$Chance", name := "<init>", desc := "(LShadowTheatre$Show;)V" } : Jvm.MethodName) prog_2_method_1_code (2 : Nat) (Option.none : Option Jvm.ClassFile.FieldType) ∈ qw_tw := qw_in2 47 rfl rfl
theorem tz_361 : Jvm.Cond.methodLink "ShadowTheatre$Chance" (3 : Nat) ({ cls := "java/lang/Object", name := "<init>", desc := "()V" } : Jvm.MethodName) ∈ qw_tw := qw_in2 48 rfl rfl
theorem tz_362 : Jvm.Cond.classLink "ShadowTheatre$Chance" (9 : Nat) "ShadowTheatre$Cues" ∈ qw_tw := qw_in2 49 rfl rfl
theorem tz_379 : Jvm.Cond.classLink "ShadowTheatre" (54 : Nat) "ShadowTheatre$Sheet" ∈ qw_tw := qw_in2 66 rfl rfl
theorem tz_381 : Jvm.Cond.instantiable "ShadowTheatre$Sheet" (3 : Nat) ∈ qw_tw := qw_in2 68 rfl rfl
theorem tz_383 : Jvm.Cond.instanceMethod ({ cls := "ShadowTheatre$Sheet", name := "<init>", desc := "()V" } : Jvm.MethodName) ∈ qw_tw := qw_in2 70 rfl rfl
theorem tz_384 : Jvm.Cond.code ({ cls := "ShadowTheatre$Sheet", name := "<init>", desc := "()V" } : Jvm.MethodName) prog_8_method_1_code (1 : Nat) (Option.none : Option Jvm.ClassFile.FieldType) ∈ qw_tw := qw_in2 71 rfl rfl
theorem tz_385 : Jvm.Cond.methodLink "ShadowTheatre$Sheet" (3 : Nat) ({ cls := "java/lang/Object", name := "<init>", desc := "()V" } : Jvm.MethodName) ∈ qw_tw := qw_in2 72 rfl rfl
theorem tz_1130 : Jvm.Cond.classLink "ShadowTheatreLaw" (10 : Nat) "ShadowTheatreModel" ∈ qw_tw := qw_in5 97 rfl rfl
theorem tz_1131 : Jvm.Cond.instantiable "ShadowTheatreModel" (26 : Nat) ∈ qw_tw := qw_in5 98 rfl rfl
theorem tz_1132 : Jvm.Cond.methodLink "ShadowTheatreLaw" (12 : Nat) ({ cls := "ShadowTheatreModel", name := "<init>", desc := "()V" } : Jvm.MethodName) ∈ qw_tw := qw_in5 99 rfl rfl
theorem tz_1133 : Jvm.Cond.instanceMethod ({ cls := "ShadowTheatreModel", name := "<init>", desc := "()V" } : Jvm.MethodName) ∈ qw_tw := qw_in5 100 rfl rfl
theorem tz_1134 : Jvm.Cond.code ({ cls := "ShadowTheatreModel", name := "<init>", desc := "()V" } : Jvm.MethodName) prog_14_method_1_code (2 : Nat) (Option.none : Option Jvm.ClassFile.FieldType) ∈ qw_tw := qw_in5 101 rfl rfl
theorem tz_1135 : Jvm.Cond.methodLink "ShadowTheatreModel" (1 : Nat) ({ cls := "java/lang/Object", name := "<init>", desc := "()V" } : Jvm.MethodName) ∈ qw_tw := qw_in5 102 rfl rfl
def wE_cs : List (qw_R → qw_E) := [
  ]
def wE_cf (k : Nat) : qw_R → qw_E := qw_nth wE_cs k (fun _ => .inl (9, 0))
def wE : qw_Wd := (qc_cl, 0, wE_cf, 3, fun t => (match t with | 0 => FieldType.int | 1 => .byte | _ => .object "ShadowTheatre$Sheet"), 0, fun k => (fun j => qw_nth (qw_nth [] (k - 0) []) j 0, fun _ => 0), [], qc_kd, qc_nst, 0, [])
theorem wE_tok : qw_tok wE := ⟨rfl, rfl, ⟨_, rfl⟩, by decide, rfl⟩
def wE_gd (f : qw_R → qw_E) : Prop := (∀ r q, f r = .inl q → ∀ r', f r' = .inl q) ∧ (∀ r c, f r = .inr (.inr c) → ∀ j, (qc_kd c.1 j = 1 → j < c.2.length ∧ ∀ x, f (upd r.1 j x, r.2) = .inr (.inr (c.1, c.2.set j (.int x)))) ∧ (qc_kd c.1 j = 2 → j < c.2.length ∧ ∀ x, f (r.1, vp_updL r.2 j x) = .inr (.inr (c.1, c.2.set j (.long x)))))
theorem wE_ga (q : Nat × Nat) : wE_gd (fun _ => .inl q) := ⟨fun r q2 h r' => h, fun r c h => (by cases h)⟩
theorem wE_gq (q : Nat × Nat × (Nat → Option Nat)) : wE_gd (fun _ => .inr (.inl q)) := ⟨fun r q2 h => (by cases h), fun r c h => (by cases h)⟩
theorem wE_gall : ∀ f ∈ wE_cs, wE_gd f := fun _ h => absurd h List.not_mem_nil
theorem wE_wf : qw_wf wE := ⟨fun k => (qw_nth_all (wE_ga _) k wE_gall).1, fun k => (qw_nth_all (wE_ga _) k wE_gall).2⟩
def wF_cs : List (qw_R → qw_E) := [
  fun r => .inr (.inr (8, [.ref 2, .ref 3, .ref 4, .ref 5, .ref 6, .ref 1, .ref 7, .ref 8, .int (r.1 8)])),
  fun _ => .inl (0, 8)]
def wF_cf (k : Nat) : qw_R → qw_E := qw_nth wF_cs k (fun _ => .inl (9, 0))
def wF : qw_Wd := (qc_cl, 2, wF_cf, 3, fun t => (match t with | 0 => FieldType.int | 1 => .byte | _ => .object "ShadowTheatre$Sheet"), 0, fun k => (fun j => qw_nth (qw_nth [] (k - 2) []) j 0, fun _ => 0), [], qc_kd, qc_nst, 0, [])
theorem wF_tok : qw_tok wF := ⟨rfl, rfl, ⟨_, rfl⟩, by decide, rfl⟩
def wF_gd (f : qw_R → qw_E) : Prop := (∀ r q, f r = .inl q → ∀ r', f r' = .inl q) ∧ (∀ r c, f r = .inr (.inr c) → ∀ j, (qc_kd c.1 j = 1 → j < c.2.length ∧ ∀ x, f (upd r.1 j x, r.2) = .inr (.inr (c.1, c.2.set j (.int x)))) ∧ (qc_kd c.1 j = 2 → j < c.2.length ∧ ∀ x, f (r.1, vp_updL r.2 j x) = .inr (.inr (c.1, c.2.set j (.long x)))))
theorem wF_ga (q : Nat × Nat) : wF_gd (fun _ => .inl q) := ⟨fun r q2 h r' => h, fun r c h => (by cases h)⟩
theorem wF_gq (q : Nat × Nat × (Nat → Option Nat)) : wF_gd (fun _ => .inr (.inl q)) := ⟨fun r q2 h => (by cases h), fun r c h => (by cases h)⟩
theorem wF_g0 : wF_gd (fun r => .inr (.inr (8, [.ref 2, .ref 3, .ref 4, .ref 5, .ref 6, .ref 1, .ref 7, .ref 8, .int (r.1 8)]))) := by
  refine ⟨fun r q h => (by cases h), fun r c h j => ?_⟩
  cases h
  match j with
  | 0 => exact ⟨fun h => absurd h (show ¬ (0 : Nat) = 1 by decide), fun h => absurd h (show ¬ (0 : Nat) = 2 by decide)⟩
  | 1 => exact ⟨fun h => absurd h (show ¬ (0 : Nat) = 1 by decide), fun h => absurd h (show ¬ (0 : Nat) = 2 by decide)⟩
  | 2 => exact ⟨fun h => absurd h (show ¬ (0 : Nat) = 1 by decide), fun h => absurd h (show ¬ (0 : Nat) = 2 by decide)⟩
  | 3 => exact ⟨fun h => absurd h (show ¬ (0 : Nat) = 1 by decide), fun h => absurd h (show ¬ (0 : Nat) = 2 by decide)⟩
  | 4 => exact ⟨fun h => absurd h (show ¬ (0 : Nat) = 1 by decide), fun h => absurd h (show ¬ (0 : Nat) = 2 by decide)⟩
  | 5 => exact ⟨fun h => absurd h (show ¬ (0 : Nat) = 1 by decide), fun h => absurd h (show ¬ (0 : Nat) = 2 by decide)⟩
  | 6 => exact ⟨fun h => absurd h (show ¬ (0 : Nat) = 1 by decide), fun h => absurd h (show ¬ (0 : Nat) = 2 by decide)⟩
  | 7 => exact ⟨fun h => absurd h (show ¬ (0 : Nat) = 1 by decide), fun h => absurd h (show ¬ (0 : Nat) = 2 by decide)⟩
  | 8 => exact ⟨fun _ => ⟨Nat.le_of_ble_eq_true rfl, fun x => rfl⟩, fun h => absurd h (show ¬ (1 : Nat) = 2 by decide)⟩
  | _ + 9 => exact ⟨fun h => absurd h (show ¬ (0 : Nat) = 1 by decide), fun h => absurd h (show ¬ (0 : Nat) = 2 by decide)⟩
theorem wF_gall : ∀ f ∈ wF_cs, wF_gd f := List.forall_mem_cons.mpr ⟨wF_g0, List.forall_mem_cons.mpr ⟨wF_ga _, fun _ h => absurd h List.not_mem_nil⟩⟩
theorem wF_wf : qw_wf wF := ⟨fun k => (qw_nth_all (wF_ga _) k wF_gall).1, fun k => (qw_nth_all (wF_ga _) k wF_gall).2⟩
theorem wE_cok : qw_cok qw_tw wE := qc_cok
theorem wF_cok : qw_cok qw_tw wF := qc_cok
def qe_8 : qw_K := ("ShadowTheatre$Stage", [(9, 8, 1), (15, 8, 2), (18, 8, 3), (21, 8, 4), (24, 8, 5), (27, 8, 6), (33, 8, 7), (37, 8, 0), (45, 8, 8), (49, 9, 0), (52, 9, 1), (53, 9, 2), (62, 9, 4), (77, 9, 5), (80, 9, 3)], [(41, none, my_X8_rayTo), (54, some 9, my_X9_has), (58, some 8, my_X8_workOutCover), (65, some 2, my_X2_fill), (69, some 8, my_X8_coverOf), (73, some 2, my_X2_dim)], [], [], [], [], 0, [])
theorem qe_8_1wE : ∀ j q, qw_lk (qw_kf qe_8) j = some q → ∃ c, (qw_cl wE)[q.1]? = some c ∧ q.2 < c.2.2 ∧ (Cond.fieldLink (qw_kn qe_8) j (c.2.1 q.2).1 (c.2.1 q.2).2.1 (c.2.1 q.2).2.2.1 ∈ qw_tw ∨ ∃ host, (qw_kn qe_8, j, (c.2.1 q.2).1, (c.2.1 q.2).2.1, (c.2.1 q.2).2.2.1, host) ∈ qw_nst wE) :=
  qw_all (List.forall_mem_cons.mpr ⟨⟨_, rfl, by decide, Or.inl tz_242⟩, List.forall_mem_cons.mpr ⟨⟨_, rfl, by decide, Or.inl tz_243⟩, List.forall_mem_cons.mpr ⟨⟨_, rfl, by decide, Or.inl tz_244⟩, List.forall_mem_cons.mpr ⟨⟨_, rfl, by decide, Or.inl tz_245⟩, List.forall_mem_cons.mpr ⟨⟨_, rfl, by decide, Or.inl tz_246⟩, List.forall_mem_cons.mpr ⟨⟨_, rfl, by decide, Or.inl tz_247⟩, List.forall_mem_cons.mpr ⟨⟨_, rfl, by decide, Or.inl tz_248⟩, List.forall_mem_cons.mpr ⟨⟨_, rfl, by decide, Or.inl tz_241⟩, List.forall_mem_cons.mpr ⟨⟨_, rfl, by decide, Or.inl tz_254⟩, List.forall_mem_cons.mpr ⟨⟨_, rfl, by decide, Or.inr ⟨_, List.mem_of_getElem? (i := 6) rfl⟩⟩, List.forall_mem_cons.mpr ⟨⟨_, rfl, by decide, Or.inr ⟨_, List.mem_of_getElem? (i := 7) rfl⟩⟩, List.forall_mem_cons.mpr ⟨⟨_, rfl, by decide, Or.inr ⟨_, List.mem_of_getElem? (i := 8) rfl⟩⟩, List.forall_mem_cons.mpr ⟨⟨_, rfl, by decide, Or.inr ⟨_, List.mem_of_getElem? (i := 10) rfl⟩⟩, List.forall_mem_cons.mpr ⟨⟨_, rfl, by decide, Or.inr ⟨_, List.mem_of_getElem? (i := 14) rfl⟩⟩, List.forall_mem_cons.mpr ⟨⟨_, rfl, by decide, Or.inr ⟨_, List.mem_of_getElem? (i := 9) rfl⟩⟩, fun _ h => absurd h List.not_mem_nil⟩⟩⟩⟩⟩⟩⟩⟩⟩⟩⟩⟩⟩⟩⟩)
theorem qe_8_2wE : ∀ j q, qw_lk (qw_kc qe_8) j = some q → qw_yc q.2 ∈ qw_tw ∧ Cond.methodLink (qw_kn qe_8) j (qw_yn q.2) ∈ qw_tw ∧ Cond.initialized (qw_yn q.2).cls ∈ qw_tw ∧ ((qw_yn q.2).cls ≠ "java/lang/invoke/MethodHandle" ∧ (qw_yn q.2).cls ≠ "java/lang/invoke/VarHandle" ∧ (parseMethodDescriptor (qw_yn q.2).desc).map (fun d => d.parameters.length) = some (qw_yp q.2)) ∧
    (q.1 = none → Cond.static (qw_yn q.2) ∈ qw_tw) ∧ (∀ ci, q.1 = some ci → Cond.instanceMethod (qw_yn q.2) ∈ qw_tw ∧ Cond.selects (qw_yn q.2).cls (qw_yn q.2) (qw_yn q.2) ∈ qw_tw ∧ ((ci = 13 ∧ (qw_yn q.2).cls = "java/lang/String") ∨ ∃ c, (qw_cl wE)[ci]? = some c ∧ c.1 = (qw_yn q.2).cls)) :=
  qw_all (List.forall_mem_cons.mpr ⟨⟨tz_240, tz_238, tz_82, by decide +kernel, fun _ => tz_239, fun _ h => (by cases h)⟩, List.forall_mem_cons.mpr ⟨⟨tz_607, tz_695, tz_78, by decide +kernel, fun h => (by cases h), fun ci h => (by cases h; exact ⟨tz_605, tz_606, Or.inr ⟨_, rfl, rfl⟩⟩)⟩, List.forall_mem_cons.mpr ⟨⟨tz_713, tz_710, tz_82, by decide +kernel, fun h => (by cases h), fun ci h => (by cases h; exact ⟨tz_712, tz_7, Or.inr ⟨_, rfl, rfl⟩⟩)⟩, List.forall_mem_cons.mpr ⟨⟨tz_573, tz_705, tz_81, by decide +kernel, fun h => (by cases h), fun ci h => (by cases h; exact ⟨tz_571, tz_572, Or.inr ⟨_, rfl, rfl⟩⟩)⟩, List.forall_mem_cons.mpr ⟨⟨tz_709, tz_706, tz_82, by decide +kernel, fun h => (by cases h), fun ci h => (by cases h; exact ⟨tz_707, tz_708, Or.inr ⟨_, rfl, rfl⟩⟩)⟩, List.forall_mem_cons.mpr ⟨⟨tz_717, tz_714, tz_81, by decide +kernel, fun h => (by cases h), fun ci h => (by cases h; exact ⟨tz_715, tz_716, Or.inr ⟨_, rfl, rfl⟩⟩)⟩, fun _ h => absurd h List.not_mem_nil⟩⟩⟩⟩⟩⟩)
theorem qe_8_wE : qw_ok qw_tw wE qe_8 := ⟨qw_tw_good, wE_wf, wE_cok, wE_tok, qe_8_1wE, qe_8_2wE, qw_all (fun _ h => absurd h List.not_mem_nil), qw_all (fun _ h => absurd h List.not_mem_nil), fun j q z h => (by cases h), fun j h => (qw_ka0 h).elim, qw_all (fun _ h => absurd h List.not_mem_nil), qw_all (fun _ h => absurd h List.not_mem_nil)⟩
def qe_Math : qw_K := ("java/lang/Math", [], [], [], [], [], [], 0, [])
theorem qe_Math_1wE : ∀ j q, qw_lk (qw_kf qe_Math) j = some q → ∃ c, (qw_cl wE)[q.1]? = some c ∧ q.2 < c.2.2 ∧ (Cond.fieldLink (qw_kn qe_Math) j (c.2.1 q.2).1 (c.2.1 q.2).2.1 (c.2.1 q.2).2.2.1 ∈ qw_tw ∨ ∃ host, (qw_kn qe_Math, j, (c.2.1 q.2).1, (c.2.1 q.2).2.1, (c.2.1 q.2).2.2.1, host) ∈ qw_nst wE) :=
  qw_all (fun _ h => absurd h List.not_mem_nil)
theorem qe_Math_2wE : ∀ j q, qw_lk (qw_kc qe_Math) j = some q → qw_yc q.2 ∈ qw_tw ∧ Cond.methodLink (qw_kn qe_Math) j (qw_yn q.2) ∈ qw_tw ∧ Cond.initialized (qw_yn q.2).cls ∈ qw_tw ∧ ((qw_yn q.2).cls ≠ "java/lang/invoke/MethodHandle" ∧ (qw_yn q.2).cls ≠ "java/lang/invoke/VarHandle" ∧ (parseMethodDescriptor (qw_yn q.2).desc).map (fun d => d.parameters.length) = some (qw_yp q.2)) ∧
    (q.1 = none → Cond.static (qw_yn q.2) ∈ qw_tw) ∧ (∀ ci, q.1 = some ci → Cond.instanceMethod (qw_yn q.2) ∈ qw_tw ∧ Cond.selects (qw_yn q.2).cls (qw_yn q.2) (qw_yn q.2) ∈ qw_tw ∧ ((ci = 13 ∧ (qw_yn q.2).cls = "java/lang/String") ∨ ∃ c, (qw_cl wE)[ci]? = some c ∧ c.1 = (qw_yn q.2).cls)) :=
  qw_all (fun _ h => absurd h List.not_mem_nil)
theorem qe_Math_wE : qw_ok qw_tw wE qe_Math := ⟨qw_tw_good, wE_wf, wE_cok, wE_tok, qe_Math_1wE, qe_Math_2wE, qw_all (fun _ h => absurd h List.not_mem_nil), qw_all (fun _ h => absurd h List.not_mem_nil), fun j q z h => (by cases h), fun j h => (qw_ka0 h).elim, qw_all (fun _ h => absurd h List.not_mem_nil), qw_all (fun _ h => absurd h List.not_mem_nil)⟩
def qf_8 : qw_K := ("ShadowTheatre$Stage", [(9, 8, 1), (15, 8, 2), (18, 8, 3), (21, 8, 4), (24, 8, 5), (27, 8, 6), (33, 8, 7), (37, 8, 0), (45, 8, 8), (49, 9, 0), (52, 9, 1), (53, 9, 2), (62, 9, 4), (77, 9, 5), (80, 9, 3)], [(41, none, my_X8_rayTo), (54, some 9, my_X9_has), (58, some 8, my_X8_workOutCover), (65, some 2, my_X2_fill), (69, some 8, my_X8_coverOf), (73, some 2, my_X2_dim)], [], [], [], [], 0, [])
theorem qf_8_1wF : ∀ j q, qw_lk (qw_kf qf_8) j = some q → ∃ c, (qw_cl wF)[q.1]? = some c ∧ q.2 < c.2.2 ∧ (Cond.fieldLink (qw_kn qf_8) j (c.2.1 q.2).1 (c.2.1 q.2).2.1 (c.2.1 q.2).2.2.1 ∈ qw_tw ∨ ∃ host, (qw_kn qf_8, j, (c.2.1 q.2).1, (c.2.1 q.2).2.1, (c.2.1 q.2).2.2.1, host) ∈ qw_nst wF) :=
  qw_all (List.forall_mem_cons.mpr ⟨⟨_, rfl, by decide, Or.inl tz_242⟩, List.forall_mem_cons.mpr ⟨⟨_, rfl, by decide, Or.inl tz_243⟩, List.forall_mem_cons.mpr ⟨⟨_, rfl, by decide, Or.inl tz_244⟩, List.forall_mem_cons.mpr ⟨⟨_, rfl, by decide, Or.inl tz_245⟩, List.forall_mem_cons.mpr ⟨⟨_, rfl, by decide, Or.inl tz_246⟩, List.forall_mem_cons.mpr ⟨⟨_, rfl, by decide, Or.inl tz_247⟩, List.forall_mem_cons.mpr ⟨⟨_, rfl, by decide, Or.inl tz_248⟩, List.forall_mem_cons.mpr ⟨⟨_, rfl, by decide, Or.inl tz_241⟩, List.forall_mem_cons.mpr ⟨⟨_, rfl, by decide, Or.inl tz_254⟩, List.forall_mem_cons.mpr ⟨⟨_, rfl, by decide, Or.inr ⟨_, List.mem_of_getElem? (i := 6) rfl⟩⟩, List.forall_mem_cons.mpr ⟨⟨_, rfl, by decide, Or.inr ⟨_, List.mem_of_getElem? (i := 7) rfl⟩⟩, List.forall_mem_cons.mpr ⟨⟨_, rfl, by decide, Or.inr ⟨_, List.mem_of_getElem? (i := 8) rfl⟩⟩, List.forall_mem_cons.mpr ⟨⟨_, rfl, by decide, Or.inr ⟨_, List.mem_of_getElem? (i := 10) rfl⟩⟩, List.forall_mem_cons.mpr ⟨⟨_, rfl, by decide, Or.inr ⟨_, List.mem_of_getElem? (i := 14) rfl⟩⟩, List.forall_mem_cons.mpr ⟨⟨_, rfl, by decide, Or.inr ⟨_, List.mem_of_getElem? (i := 9) rfl⟩⟩, fun _ h => absurd h List.not_mem_nil⟩⟩⟩⟩⟩⟩⟩⟩⟩⟩⟩⟩⟩⟩⟩)
theorem qf_8_2wF : ∀ j q, qw_lk (qw_kc qf_8) j = some q → qw_yc q.2 ∈ qw_tw ∧ Cond.methodLink (qw_kn qf_8) j (qw_yn q.2) ∈ qw_tw ∧ Cond.initialized (qw_yn q.2).cls ∈ qw_tw ∧ ((qw_yn q.2).cls ≠ "java/lang/invoke/MethodHandle" ∧ (qw_yn q.2).cls ≠ "java/lang/invoke/VarHandle" ∧ (parseMethodDescriptor (qw_yn q.2).desc).map (fun d => d.parameters.length) = some (qw_yp q.2)) ∧
    (q.1 = none → Cond.static (qw_yn q.2) ∈ qw_tw) ∧ (∀ ci, q.1 = some ci → Cond.instanceMethod (qw_yn q.2) ∈ qw_tw ∧ Cond.selects (qw_yn q.2).cls (qw_yn q.2) (qw_yn q.2) ∈ qw_tw ∧ ((ci = 13 ∧ (qw_yn q.2).cls = "java/lang/String") ∨ ∃ c, (qw_cl wF)[ci]? = some c ∧ c.1 = (qw_yn q.2).cls)) :=
  qw_all (List.forall_mem_cons.mpr ⟨⟨tz_240, tz_238, tz_82, by decide +kernel, fun _ => tz_239, fun _ h => (by cases h)⟩, List.forall_mem_cons.mpr ⟨⟨tz_607, tz_695, tz_78, by decide +kernel, fun h => (by cases h), fun ci h => (by cases h; exact ⟨tz_605, tz_606, Or.inr ⟨_, rfl, rfl⟩⟩)⟩, List.forall_mem_cons.mpr ⟨⟨tz_713, tz_710, tz_82, by decide +kernel, fun h => (by cases h), fun ci h => (by cases h; exact ⟨tz_712, tz_7, Or.inr ⟨_, rfl, rfl⟩⟩)⟩, List.forall_mem_cons.mpr ⟨⟨tz_573, tz_705, tz_81, by decide +kernel, fun h => (by cases h), fun ci h => (by cases h; exact ⟨tz_571, tz_572, Or.inr ⟨_, rfl, rfl⟩⟩)⟩, List.forall_mem_cons.mpr ⟨⟨tz_709, tz_706, tz_82, by decide +kernel, fun h => (by cases h), fun ci h => (by cases h; exact ⟨tz_707, tz_708, Or.inr ⟨_, rfl, rfl⟩⟩)⟩, List.forall_mem_cons.mpr ⟨⟨tz_717, tz_714, tz_81, by decide +kernel, fun h => (by cases h), fun ci h => (by cases h; exact ⟨tz_715, tz_716, Or.inr ⟨_, rfl, rfl⟩⟩)⟩, fun _ h => absurd h List.not_mem_nil⟩⟩⟩⟩⟩⟩)
theorem qf_8_wF : qw_ok qw_tw wF qf_8 := ⟨qw_tw_good, wF_wf, wF_cok, wF_tok, qf_8_1wF, qf_8_2wF, qw_all (fun _ h => absurd h List.not_mem_nil), qw_all (fun _ h => absurd h List.not_mem_nil), fun j q z h => (by cases h), fun j h => (qw_ka0 h).elim, qw_all (fun _ h => absurd h List.not_mem_nil), qw_all (fun _ h => absurd h List.not_mem_nil)⟩
theorem evE_X8_rayTo {Q : Option Value → qw_M → Prop} {pc : Nat} {ls : qw_L} {st : List Value} {σ : qw_M} (cut : List Nat) (N : Nat) (h : qw_run qw_tw wE qe_8 my_X8_rayTo cd_X8_rayTo cut Q (qw_Ev qw_tw wE qe_8 my_X8_rayTo Q) N pc (qw_find cd_X8_rayTo pc) ls st σ) : qw_Ev qw_tw wE qe_8 my_X8_rayTo Q pc ls st σ := qw_runs qe_8_wE co_X8_rayTo N pc _ ls st σ (fun _ h => qw_find_mem h) h
theorem mtE_X8_rayTo {Q : Option Value → qw_M → Prop} {av : List Value} {σ : qw_M} (hn : Nat.ble (lg_sl av).length 3 = true) (h : qw_Ev qw_tw wE qe_8 my_X8_rayTo Q 0 (lv_args 0 av) [] σ) : qw_Mt qw_tw wE my_X8_rayTo av σ Q := qw_Mt.of rfl (by decide +kernel) hn h
theorem evE_J9_max {Q : Option Value → qw_M → Prop} {pc : Nat} {ls : qw_L} {st : List Value} {σ : qw_M} (cut : List Nat) (N : Nat) (h : qw_run qw_tw wE qe_Math my_J9_max cd_J9_max cut Q (qw_Ev qw_tw wE qe_Math my_J9_max Q) N pc (qw_find cd_J9_max pc) ls st σ) : qw_Ev qw_tw wE qe_Math my_J9_max Q pc ls st σ := qw_runs qe_Math_wE co_J9_max N pc _ ls st σ (fun _ h => qw_find_mem h) h
theorem mtE_J9_max {Q : Option Value → qw_M → Prop} {av : List Value} {σ : qw_M} (hn : Nat.ble (lg_sl av).length 2 = true) (h : qw_Ev qw_tw wE qe_Math my_J9_max Q 0 (lv_args 0 av) [] σ) : qw_Mt qw_tw wE my_J9_max av σ Q := qw_Mt.of rfl (by decide +kernel) hn h
theorem evF_X8_forgetCovers {Q : Option Value → qw_M → Prop} {pc : Nat} {ls : qw_L} {st : List Value} {σ : qw_M} (cut : List Nat) (N : Nat) (h : qw_run qw_tw wF qf_8 my_X8_forgetCovers cd_X8_forgetCovers cut Q (qw_Ev qw_tw wF qf_8 my_X8_forgetCovers Q) N pc (qw_find cd_X8_forgetCovers pc) ls st σ) : qw_Ev qw_tw wF qf_8 my_X8_forgetCovers Q pc ls st σ := qw_runs qf_8_wF co_X8_forgetCovers N pc _ ls st σ (fun _ h => qw_find_mem h) h
theorem mtF_X8_forgetCovers {Q : Option Value → qw_M → Prop} {av : List Value} {σ : qw_M} (hn : Nat.ble (lg_sl av).length 2 = true) (h : qw_Ev qw_tw wF qf_8 my_X8_forgetCovers Q 0 (lv_args 0 av) [] σ) : qw_Mt qw_tw wF my_X8_forgetCovers av σ Q := qw_Mt.of rfl (by decide +kernel) hn h
theorem dn_0_0 : decode prog_2_method_1_code 0 = .ok (.aload_n 0, 1) := by decide +kernel
theorem dn_0_1 : decode prog_2_method_1_code 1 = .ok (.invokespecial 3, 3) := by decide +kernel
theorem dn_0_4 : decode prog_2_method_1_code 4 = .ok (.aload_n 0, 1) := by decide +kernel
theorem dn_0_5 : decode prog_2_method_1_code 5 = .ok (.new 9, 3) := by decide +kernel
theorem dn_0_8 : decode prog_2_method_1_code 8 = .ok (.dup, 1) := by decide +kernel
theorem dn_0_9 : decode prog_2_method_1_code 9 = .ok (.invokespecial 11, 3) := by decide +kernel
theorem dn_0_12 : decode prog_2_method_1_code 12 = .ok (.putfield 12, 3) := by decide +kernel
theorem dn_0_15 : decode prog_2_method_1_code 15 = .ok (.aload_n 0, 1) := by decide +kernel
theorem dn_0_16 : decode prog_2_method_1_code 16 = .ok (.lconst 1, 1) := by decide +kernel
theorem dn_0_17 : decode prog_2_method_1_code 17 = .ok (.putfield 18, 3) := by decide +kernel
theorem dn_0_20 : decode prog_2_method_1_code 20 = .ok (.aload_n 0, 1) := by decide +kernel
theorem dn_0_21 : decode prog_2_method_1_code 21 = .ok (.aload_n 1, 1) := by decide +kernel
theorem dn_0_22 : decode prog_2_method_1_code 22 = .ok (.putfield 22, 3) := by decide +kernel
theorem dn_0_25 : decode prog_2_method_1_code 25 = .ok (.return_, 1) := by decide +kernel
theorem dn_1_0 : decode prog_3_method_1_code 0 = .ok (.aload_n 0, 1) := by decide +kernel
theorem dn_1_1 : decode prog_3_method_1_code 1 = .ok (.invokespecial 3, 3) := by decide +kernel
theorem dn_1_4 : decode prog_3_method_1_code 4 = .ok (.aload_n 0, 1) := by decide +kernel
theorem dn_1_5 : decode prog_3_method_1_code 5 = .ok (.bipush 20, 2) := by decide +kernel
theorem dn_1_7 : decode prog_3_method_1_code 7 = .ok (.newarray .int, 2) := by decide +kernel
theorem dn_1_9 : decode prog_3_method_1_code 9 = .ok (.putfield 9, 3) := by decide +kernel
theorem dn_1_12 : decode prog_3_method_1_code 12 = .ok (.aload_n 0, 1) := by decide +kernel
theorem dn_1_13 : decode prog_3_method_1_code 13 = .ok (.bipush 20, 2) := by decide +kernel
theorem dn_1_15 : decode prog_3_method_1_code 15 = .ok (.newarray .int, 2) := by decide +kernel
theorem dn_1_17 : decode prog_3_method_1_code 17 = .ok (.putfield 15, 3) := by decide +kernel
theorem dn_1_20 : decode prog_3_method_1_code 20 = .ok (.aload_n 0, 1) := by decide +kernel
theorem dn_1_21 : decode prog_3_method_1_code 21 = .ok (.iconst (-1), 1) := by decide +kernel
theorem dn_1_22 : decode prog_3_method_1_code 22 = .ok (.putfield 18, 3) := by decide +kernel
theorem dn_1_25 : decode prog_3_method_1_code 25 = .ok (.return_, 1) := by decide +kernel
theorem dn_2_0 : decode prog_4_method_1_code 0 = .ok (.aload_n 0, 1) := by decide +kernel
theorem dn_2_1 : decode prog_4_method_1_code 1 = .ok (.invokespecial 3, 3) := by decide +kernel
theorem dn_2_4 : decode prog_4_method_1_code 4 = .ok (.return_, 1) := by decide +kernel
theorem dn_3_0 : decode prog_5_method_1_code 0 = .ok (.aload_n 0, 1) := by decide +kernel
theorem dn_3_1 : decode prog_5_method_1_code 1 = .ok (.invokespecial 3, 3) := by decide +kernel
theorem dn_3_4 : decode prog_5_method_1_code 4 = .ok (.aload_n 0, 1) := by decide +kernel
theorem dn_3_5 : decode prog_5_method_1_code 5 = .ok (.new 9, 3) := by decide +kernel
theorem dn_3_8 : decode prog_5_method_1_code 8 = .ok (.dup, 1) := by decide +kernel
theorem dn_3_9 : decode prog_5_method_1_code 9 = .ok (.invokespecial 11, 3) := by decide +kernel
theorem dn_3_12 : decode prog_5_method_1_code 12 = .ok (.putfield 12, 3) := by decide +kernel
theorem dn_3_15 : decode prog_5_method_1_code 15 = .ok (.aload_n 0, 1) := by decide +kernel
theorem dn_3_16 : decode prog_5_method_1_code 16 = .ok (.iconst (-1), 1) := by decide +kernel
theorem dn_3_17 : decode prog_5_method_1_code 17 = .ok (.putfield 18, 3) := by decide +kernel
theorem dn_3_20 : decode prog_5_method_1_code 20 = .ok (.return_, 1) := by decide +kernel
theorem dn_4_0 : decode prog_6_method_1_code 0 = .ok (.aload_n 0, 1) := by decide +kernel
theorem dn_4_1 : decode prog_6_method_1_code 1 = .ok (.invokespecial 3, 3) := by decide +kernel
theorem dn_4_4 : decode prog_6_method_1_code 4 = .ok (.aload_n 0, 1) := by decide +kernel
theorem dn_4_5 : decode prog_6_method_1_code 5 = .ok (.new 9, 3) := by decide +kernel
theorem dn_4_8 : decode prog_6_method_1_code 8 = .ok (.dup, 1) := by decide +kernel
theorem dn_4_9 : decode prog_6_method_1_code 9 = .ok (.invokespecial 11, 3) := by decide +kernel
theorem dn_4_12 : decode prog_6_method_1_code 12 = .ok (.putfield 12, 3) := by decide +kernel
theorem dn_4_15 : decode prog_6_method_1_code 15 = .ok (.aload_n 0, 1) := by decide +kernel
theorem dn_4_16 : decode prog_6_method_1_code 16 = .ok (.bipush 9, 2) := by decide +kernel
theorem dn_4_18 : decode prog_6_method_1_code 18 = .ok (.newarray .int, 2) := by decide +kernel
theorem dn_4_20 : decode prog_6_method_1_code 20 = .ok (.putfield 18, 3) := by decide +kernel
theorem dn_4_23 : decode prog_6_method_1_code 23 = .ok (.aload_n 0, 1) := by decide +kernel
theorem dn_4_24 : decode prog_6_method_1_code 24 = .ok (.bipush 32, 2) := by decide +kernel
theorem dn_4_26 : decode prog_6_method_1_code 26 = .ok (.newarray .int, 2) := by decide +kernel
theorem dn_4_28 : decode prog_6_method_1_code 28 = .ok (.putfield 22, 3) := by decide +kernel
theorem dn_4_31 : decode prog_6_method_1_code 31 = .ok (.aload_n 0, 1) := by decide +kernel
theorem dn_4_32 : decode prog_6_method_1_code 32 = .ok (.iconst 3, 1) := by decide +kernel
theorem dn_4_33 : decode prog_6_method_1_code 33 = .ok (.newarray .int, 2) := by decide +kernel
theorem dn_4_35 : decode prog_6_method_1_code 35 = .ok (.putfield 25, 3) := by decide +kernel
theorem dn_4_38 : decode prog_6_method_1_code 38 = .ok (.aload_n 0, 1) := by decide +kernel
theorem dn_4_39 : decode prog_6_method_1_code 39 = .ok (.aload_n 1, 1) := by decide +kernel
theorem dn_4_40 : decode prog_6_method_1_code 40 = .ok (.putfield 28, 3) := by decide +kernel
theorem dn_4_43 : decode prog_6_method_1_code 43 = .ok (.aload_n 0, 1) := by decide +kernel
theorem dn_4_44 : decode prog_6_method_1_code 44 = .ok (.aload_n 1, 1) := by decide +kernel
theorem dn_4_45 : decode prog_6_method_1_code 45 = .ok (.getfield 32, 3) := by decide +kernel
theorem dn_4_48 : decode prog_6_method_1_code 48 = .ok (.putfield 38, 3) := by decide +kernel
theorem dn_4_51 : decode prog_6_method_1_code 51 = .ok (.return_, 1) := by decide +kernel
theorem dn_5_0 : decode prog_7_method_1_code 0 = .ok (.aload_n 0, 1) := by decide +kernel
theorem dn_5_1 : decode prog_7_method_1_code 1 = .ok (.invokespecial 3, 3) := by decide +kernel
theorem dn_5_4 : decode prog_7_method_1_code 4 = .ok (.aload_n 0, 1) := by decide +kernel
theorem dn_5_5 : decode prog_7_method_1_code 5 = .ok (.iload_n 1, 1) := by decide +kernel
theorem dn_5_6 : decode prog_7_method_1_code 6 = .ok (.iconst 0, 1) := by decide +kernel
theorem dn_5_7 : decode prog_7_method_1_code 7 = .ok (.invokestatic 9, 3) := by decide +kernel
theorem dn_5_10 : decode prog_7_method_1_code 10 = .ok (.newarray .int, 2) := by decide +kernel
theorem dn_5_12 : decode prog_7_method_1_code 12 = .ok (.putfield 15, 3) := by decide +kernel
theorem dn_5_15 : decode prog_7_method_1_code 15 = .ok (.return_, 1) := by decide +kernel
theorem dn_6_0 : decode prog_8_method_1_code 0 = .ok (.aload_n 0, 1) := by decide +kernel
theorem dn_6_1 : decode prog_8_method_1_code 1 = .ok (.invokespecial 3, 3) := by decide +kernel
theorem dn_6_4 : decode prog_8_method_1_code 4 = .ok (.aload_n 0, 1) := by decide +kernel
theorem dn_6_5 : decode prog_8_method_1_code 5 = .ok (.bipush 60, 2) := by decide +kernel
theorem dn_6_7 : decode prog_8_method_1_code 7 = .ok (.newarray .int, 2) := by decide +kernel
theorem dn_6_9 : decode prog_8_method_1_code 9 = .ok (.putfield 9, 3) := by decide +kernel
theorem dn_6_12 : decode prog_8_method_1_code 12 = .ok (.aload_n 0, 1) := by decide +kernel
theorem dn_6_13 : decode prog_8_method_1_code 13 = .ok (.iconst (-1), 1) := by decide +kernel
theorem dn_6_14 : decode prog_8_method_1_code 14 = .ok (.putfield 15, 3) := by decide +kernel
theorem dn_6_17 : decode prog_8_method_1_code 17 = .ok (.return_, 1) := by decide +kernel
theorem dn_7_0 : decode prog_9_method_1_code 0 = .ok (.aload_n 0, 1) := by decide +kernel
theorem dn_7_1 : decode prog_9_method_1_code 1 = .ok (.invokespecial 3, 3) := by decide +kernel
theorem dn_7_4 : decode prog_9_method_1_code 4 = .ok (.aload_n 0, 1) := by decide +kernel
theorem dn_7_5 : decode prog_9_method_1_code 5 = .ok (.new 9, 3) := by decide +kernel
theorem dn_7_8 : decode prog_9_method_1_code 8 = .ok (.dup, 1) := by decide +kernel
theorem dn_7_9 : decode prog_9_method_1_code 9 = .ok (.invokespecial 11, 3) := by decide +kernel
theorem dn_7_12 : decode prog_9_method_1_code 12 = .ok (.putfield 12, 3) := by decide +kernel
theorem dn_7_15 : decode prog_9_method_1_code 15 = .ok (.aload_n 0, 1) := by decide +kernel
theorem dn_7_16 : decode prog_9_method_1_code 16 = .ok (.new 18, 3) := by decide +kernel
theorem dn_7_19 : decode prog_9_method_1_code 19 = .ok (.dup, 1) := by decide +kernel
theorem dn_7_20 : decode prog_9_method_1_code 20 = .ok (.invokespecial 20, 3) := by decide +kernel
theorem dn_7_23 : decode prog_9_method_1_code 23 = .ok (.putfield 21, 3) := by decide +kernel
theorem dn_7_26 : decode prog_9_method_1_code 26 = .ok (.aload_n 0, 1) := by decide +kernel
theorem dn_7_27 : decode prog_9_method_1_code 27 = .ok (.new 25, 3) := by decide +kernel
theorem dn_7_30 : decode prog_9_method_1_code 30 = .ok (.dup, 1) := by decide +kernel
theorem dn_7_31 : decode prog_9_method_1_code 31 = .ok (.invokespecial 27, 3) := by decide +kernel
theorem dn_7_34 : decode prog_9_method_1_code 34 = .ok (.putfield 28, 3) := by decide +kernel
theorem dn_7_37 : decode prog_9_method_1_code 37 = .ok (.aload_n 0, 1) := by decide +kernel
theorem dn_7_38 : decode prog_9_method_1_code 38 = .ok (.new 32, 3) := by decide +kernel
theorem dn_7_41 : decode prog_9_method_1_code 41 = .ok (.dup, 1) := by decide +kernel
theorem dn_7_42 : decode prog_9_method_1_code 42 = .ok (.bipush 8, 2) := by decide +kernel
theorem dn_7_44 : decode prog_9_method_1_code 44 = .ok (.invokespecial 34, 3) := by decide +kernel
theorem dn_7_47 : decode prog_9_method_1_code 47 = .ok (.putfield 37, 3) := by decide +kernel
theorem dn_7_50 : decode prog_9_method_1_code 50 = .ok (.aload_n 0, 1) := by decide +kernel
theorem dn_7_51 : decode prog_9_method_1_code 51 = .ok (.new 41, 3) := by decide +kernel
theorem dn_7_54 : decode prog_9_method_1_code 54 = .ok (.dup, 1) := by decide +kernel
theorem dn_7_55 : decode prog_9_method_1_code 55 = .ok (.aload_n 0, 1) := by decide +kernel
theorem dn_7_56 : decode prog_9_method_1_code 56 = .ok (.getfield 12, 3) := by decide +kernel
theorem dn_7_59 : decode prog_9_method_1_code 59 = .ok (.invokespecial 43, 3) := by decide +kernel
theorem dn_7_62 : decode prog_9_method_1_code 62 = .ok (.putfield 46, 3) := by decide +kernel
theorem dn_7_65 : decode prog_9_method_1_code 65 = .ok (.aload_n 0, 1) := by decide +kernel
theorem dn_7_66 : decode prog_9_method_1_code 66 = .ok (.bipush 16, 2) := by decide +kernel
theorem dn_7_68 : decode prog_9_method_1_code 68 = .ok (.putfield 50, 3) := by decide +kernel
theorem dn_7_71 : decode prog_9_method_1_code 71 = .ok (.return_, 1) := by decide +kernel
theorem dn_8_0 : decode prog_10_method_1_code 0 = .ok (.aload_n 0, 1) := by decide +kernel
theorem dn_8_1 : decode prog_10_method_1_code 1 = .ok (.invokespecial 3, 3) := by decide +kernel
theorem dn_8_4 : decode prog_10_method_1_code 4 = .ok (.aload_n 0, 1) := by decide +kernel
theorem dn_8_5 : decode prog_10_method_1_code 5 = .ok (.sipush 8192, 3) := by decide +kernel
theorem dn_8_8 : decode prog_10_method_1_code 8 = .ok (.newarray .int, 2) := by decide +kernel
theorem dn_8_10 : decode prog_10_method_1_code 10 = .ok (.putfield 9, 3) := by decide +kernel
theorem dn_8_13 : decode prog_10_method_1_code 13 = .ok (.aload_n 0, 1) := by decide +kernel
theorem dn_8_14 : decode prog_10_method_1_code 14 = .ok (.bipush 8, 2) := by decide +kernel
theorem dn_8_16 : decode prog_10_method_1_code 16 = .ok (.newarray .int, 2) := by decide +kernel
theorem dn_8_18 : decode prog_10_method_1_code 18 = .ok (.putfield 15, 3) := by decide +kernel
theorem dn_8_21 : decode prog_10_method_1_code 21 = .ok (.aload_n 0, 1) := by decide +kernel
theorem dn_8_22 : decode prog_10_method_1_code 22 = .ok (.bipush 8, 2) := by decide +kernel
theorem dn_8_24 : decode prog_10_method_1_code 24 = .ok (.newarray .int, 2) := by decide +kernel
theorem dn_8_26 : decode prog_10_method_1_code 26 = .ok (.putfield 18, 3) := by decide +kernel
theorem dn_8_29 : decode prog_10_method_1_code 29 = .ok (.aload_n 0, 1) := by decide +kernel
theorem dn_8_30 : decode prog_10_method_1_code 30 = .ok (.bipush 8, 2) := by decide +kernel
theorem dn_8_32 : decode prog_10_method_1_code 32 = .ok (.newarray .int, 2) := by decide +kernel
theorem dn_8_34 : decode prog_10_method_1_code 34 = .ok (.putfield 21, 3) := by decide +kernel
theorem dn_8_37 : decode prog_10_method_1_code 37 = .ok (.aload_n 0, 1) := by decide +kernel
theorem dn_8_38 : decode prog_10_method_1_code 38 = .ok (.bipush 8, 2) := by decide +kernel
theorem dn_8_40 : decode prog_10_method_1_code 40 = .ok (.newarray .int, 2) := by decide +kernel
theorem dn_8_42 : decode prog_10_method_1_code 42 = .ok (.putfield 24, 3) := by decide +kernel
theorem dn_8_45 : decode prog_10_method_1_code 45 = .ok (.aload_n 0, 1) := by decide +kernel
theorem dn_8_46 : decode prog_10_method_1_code 46 = .ok (.bipush 8, 2) := by decide +kernel
theorem dn_8_48 : decode prog_10_method_1_code 48 = .ok (.newarray .int, 2) := by decide +kernel
theorem dn_8_50 : decode prog_10_method_1_code 50 = .ok (.putfield 27, 3) := by decide +kernel
theorem dn_8_53 : decode prog_10_method_1_code 53 = .ok (.aload_n 0, 1) := by decide +kernel
theorem dn_8_54 : decode prog_10_method_1_code 54 = .ok (.new 30, 3) := by decide +kernel
theorem dn_8_57 : decode prog_10_method_1_code 57 = .ok (.dup, 1) := by decide +kernel
theorem dn_8_58 : decode prog_10_method_1_code 58 = .ok (.invokespecial 32, 3) := by decide +kernel
theorem dn_8_61 : decode prog_10_method_1_code 61 = .ok (.putfield 33, 3) := by decide +kernel
theorem dn_8_64 : decode prog_10_method_1_code 64 = .ok (.aload_n 0, 1) := by decide +kernel
theorem dn_8_65 : decode prog_10_method_1_code 65 = .ok (.aload_n 1, 1) := by decide +kernel
theorem dn_8_66 : decode prog_10_method_1_code 66 = .ok (.putfield 37, 3) := by decide +kernel
theorem dn_8_69 : decode prog_10_method_1_code 69 = .ok (.iconst 0, 1) := by decide +kernel
theorem dn_8_70 : decode prog_10_method_1_code 70 = .ok (.istore_n 2, 1) := by decide +kernel
theorem dn_8_71 : decode prog_10_method_1_code 71 = .ok (.iload_n 2, 1) := by decide +kernel
theorem dn_8_72 : decode prog_10_method_1_code 72 = .ok (.bipush 32, 2) := by decide +kernel
theorem dn_8_74 : decode prog_10_method_1_code 74 = .ok (.if_icmp .ge 91, 3) := by decide +kernel
theorem dn_8_77 : decode prog_10_method_1_code 77 = .ok (.iconst 1, 1) := by decide +kernel
theorem dn_8_78 : decode prog_10_method_1_code 78 = .ok (.istore_n 3, 1) := by decide +kernel
theorem dn_8_79 : decode prog_10_method_1_code 79 = .ok (.iload_n 3, 1) := by decide +kernel
theorem dn_8_80 : decode prog_10_method_1_code 80 = .ok (.bipush 8, 2) := by decide +kernel
theorem dn_8_82 : decode prog_10_method_1_code 82 = .ok (.if_icmp .gt 77, 3) := by decide +kernel
theorem dn_8_85 : decode prog_10_method_1_code 85 = .ok (.iconst 0, 1) := by decide +kernel
theorem dn_8_86 : decode prog_10_method_1_code 86 = .ok (.istore 4, 2) := by decide +kernel
theorem dn_8_88 : decode prog_10_method_1_code 88 = .ok (.iload 4, 2) := by decide +kernel
theorem dn_8_90 : decode prog_10_method_1_code 90 = .ok (.bipush 32, 2) := by decide +kernel
theorem dn_8_92 : decode prog_10_method_1_code 92 = .ok (.if_icmp .ge 61, 3) := by decide +kernel
theorem dn_8_95 : decode prog_10_method_1_code 95 = .ok (.iload_n 2, 1) := by decide +kernel
theorem dn_8_96 : decode prog_10_method_1_code 96 = .ok (.iload_n 3, 1) := by decide +kernel
theorem dn_8_97 : decode prog_10_method_1_code 97 = .ok (.bipush 8, 2) := by decide +kernel
theorem dn_8_99 : decode prog_10_method_1_code 99 = .ok (.iload_n 2, 1) := by decide +kernel
theorem dn_8_100 : decode prog_10_method_1_code 100 = .ok (.imul, 1) := by decide +kernel
theorem dn_8_101 : decode prog_10_method_1_code 101 = .ok (.iconst 4, 1) := by decide +kernel
theorem dn_8_102 : decode prog_10_method_1_code 102 = .ok (.iadd, 1) := by decide +kernel
theorem dn_8_103 : decode prog_10_method_1_code 103 = .ok (.iload_n 3, 1) := by decide +kernel
theorem dn_8_104 : decode prog_10_method_1_code 104 = .ok (.iload 4, 2) := by decide +kernel
theorem dn_8_106 : decode prog_10_method_1_code 106 = .ok (.iload_n 2, 1) := by decide +kernel
theorem dn_8_107 : decode prog_10_method_1_code 107 = .ok (.isub, 1) := by decide +kernel
theorem dn_8_108 : decode prog_10_method_1_code 108 = .ok (.imul, 1) := by decide +kernel
theorem dn_8_109 : decode prog_10_method_1_code 109 = .ok (.iadd, 1) := by decide +kernel
theorem dn_8_110 : decode prog_10_method_1_code 110 = .ok (.bipush 8, 2) := by decide +kernel
theorem dn_8_112 : decode prog_10_method_1_code 112 = .ok (.idiv, 1) := by decide +kernel
theorem dn_8_113 : decode prog_10_method_1_code 113 = .ok (.invokestatic 41, 3) := by decide +kernel
theorem dn_8_116 : decode prog_10_method_1_code 116 = .ok (.istore 5, 2) := by decide +kernel
theorem dn_8_118 : decode prog_10_method_1_code 118 = .ok (.iload 5, 2) := by decide +kernel
theorem dn_8_120 : decode prog_10_method_1_code 120 = .ok (.ifCond .lt 27, 3) := by decide +kernel
theorem dn_8_123 : decode prog_10_method_1_code 123 = .ok (.iload 5, 2) := by decide +kernel
theorem dn_8_125 : decode prog_10_method_1_code 125 = .ok (.aload_n 0, 1) := by decide +kernel
theorem dn_8_126 : decode prog_10_method_1_code 126 = .ok (.getfield 9, 3) := by decide +kernel
theorem dn_8_129 : decode prog_10_method_1_code 129 = .ok (.arraylength, 1) := by decide +kernel
theorem dn_8_130 : decode prog_10_method_1_code 130 = .ok (.if_icmp .ge 17, 3) := by decide +kernel
theorem dn_8_133 : decode prog_10_method_1_code 133 = .ok (.aload_n 0, 1) := by decide +kernel
theorem dn_8_134 : decode prog_10_method_1_code 134 = .ok (.getfield 9, 3) := by decide +kernel
theorem dn_8_137 : decode prog_10_method_1_code 137 = .ok (.iload 5, 2) := by decide +kernel
theorem dn_8_139 : decode prog_10_method_1_code 139 = .ok (.dup2, 1) := by decide +kernel
theorem dn_8_140 : decode prog_10_method_1_code 140 = .ok (.iaload, 1) := by decide +kernel
theorem dn_8_141 : decode prog_10_method_1_code 141 = .ok (.iconst 1, 1) := by decide +kernel
theorem dn_8_142 : decode prog_10_method_1_code 142 = .ok (.iload 4, 2) := by decide +kernel
theorem dn_8_144 : decode prog_10_method_1_code 144 = .ok (.ishl, 1) := by decide +kernel
theorem dn_8_145 : decode prog_10_method_1_code 145 = .ok (.ior, 1) := by decide +kernel
theorem dn_8_146 : decode prog_10_method_1_code 146 = .ok (.iastore, 1) := by decide +kernel
theorem dn_8_147 : decode prog_10_method_1_code 147 = .ok (.iinc 4 1, 3) := by decide +kernel
theorem dn_8_150 : decode prog_10_method_1_code 150 = .ok (.goto (-62), 3) := by decide +kernel
theorem dn_8_153 : decode prog_10_method_1_code 153 = .ok (.iinc 3 1, 3) := by decide +kernel
theorem dn_8_156 : decode prog_10_method_1_code 156 = .ok (.goto (-77), 3) := by decide +kernel
theorem dn_8_159 : decode prog_10_method_1_code 159 = .ok (.iinc 2 1, 3) := by decide +kernel
theorem dn_8_162 : decode prog_10_method_1_code 162 = .ok (.goto (-91), 3) := by decide +kernel
theorem dn_8_165 : decode prog_10_method_1_code 165 = .ok (.return_, 1) := by decide +kernel
theorem dn_9_0 : decode prog_11_method_1_code 0 = .ok (.aload_n 0, 1) := by decide +kernel
theorem dn_9_1 : decode prog_11_method_1_code 1 = .ok (.invokespecial 3, 3) := by decide +kernel
theorem dn_9_4 : decode prog_11_method_1_code 4 = .ok (.aload_n 0, 1) := by decide +kernel
theorem dn_9_5 : decode prog_11_method_1_code 5 = .ok (.bipush 8, 2) := by decide +kernel
theorem dn_9_7 : decode prog_11_method_1_code 7 = .ok (.newarray .int, 2) := by decide +kernel
theorem dn_9_9 : decode prog_11_method_1_code 9 = .ok (.putfield 9, 3) := by decide +kernel
theorem dn_9_12 : decode prog_11_method_1_code 12 = .ok (.aload_n 0, 1) := by decide +kernel
theorem dn_9_13 : decode prog_11_method_1_code 13 = .ok (.bipush 8, 2) := by decide +kernel
theorem dn_9_15 : decode prog_11_method_1_code 15 = .ok (.newarray .int, 2) := by decide +kernel
theorem dn_9_17 : decode prog_11_method_1_code 17 = .ok (.putfield 15, 3) := by decide +kernel
theorem dn_9_20 : decode prog_11_method_1_code 20 = .ok (.aload_n 0, 1) := by decide +kernel
theorem dn_9_21 : decode prog_11_method_1_code 21 = .ok (.bipush 8, 2) := by decide +kernel
theorem dn_9_23 : decode prog_11_method_1_code 23 = .ok (.newarray .int, 2) := by decide +kernel
theorem dn_9_25 : decode prog_11_method_1_code 25 = .ok (.putfield 18, 3) := by decide +kernel
theorem dn_9_28 : decode prog_11_method_1_code 28 = .ok (.aload_n 0, 1) := by decide +kernel
theorem dn_9_29 : decode prog_11_method_1_code 29 = .ok (.bipush 8, 2) := by decide +kernel
theorem dn_9_31 : decode prog_11_method_1_code 31 = .ok (.newarray .int, 2) := by decide +kernel
theorem dn_9_33 : decode prog_11_method_1_code 33 = .ok (.putfield 21, 3) := by decide +kernel
theorem dn_9_36 : decode prog_11_method_1_code 36 = .ok (.aload_n 0, 1) := by decide +kernel
theorem dn_9_37 : decode prog_11_method_1_code 37 = .ok (.bipush 8, 2) := by decide +kernel
theorem dn_9_39 : decode prog_11_method_1_code 39 = .ok (.newarray .int, 2) := by decide +kernel
theorem dn_9_41 : decode prog_11_method_1_code 41 = .ok (.putfield 24, 3) := by decide +kernel
theorem dn_9_44 : decode prog_11_method_1_code 44 = .ok (.aload_n 0, 1) := by decide +kernel
theorem dn_9_45 : decode prog_11_method_1_code 45 = .ok (.iconst (-1), 1) := by decide +kernel
theorem dn_9_46 : decode prog_11_method_1_code 46 = .ok (.putfield 27, 3) := by decide +kernel
theorem dn_9_49 : decode prog_11_method_1_code 49 = .ok (.return_, 1) := by decide +kernel
theorem dn_10_0 : decode prog_12_method_1_code 0 = .ok (.aload_n 0, 1) := by decide +kernel
theorem dn_10_1 : decode prog_12_method_1_code 1 = .ok (.invokespecial 3, 3) := by decide +kernel
theorem dn_10_4 : decode prog_12_method_1_code 4 = .ok (.aload_n 0, 1) := by decide +kernel
theorem dn_10_5 : decode prog_12_method_1_code 5 = .ok (.new 9, 3) := by decide +kernel
theorem dn_10_8 : decode prog_12_method_1_code 8 = .ok (.dup, 1) := by decide +kernel
theorem dn_10_9 : decode prog_12_method_1_code 9 = .ok (.bipush 8, 2) := by decide +kernel
theorem dn_10_11 : decode prog_12_method_1_code 11 = .ok (.invokespecial 11, 3) := by decide +kernel
theorem dn_10_14 : decode prog_12_method_1_code 14 = .ok (.putfield 14, 3) := by decide +kernel
theorem dn_10_17 : decode prog_12_method_1_code 17 = .ok (.aload_n 0, 1) := by decide +kernel
theorem dn_10_18 : decode prog_12_method_1_code 18 = .ok (.sipush 256, 3) := by decide +kernel
theorem dn_10_21 : decode prog_12_method_1_code 21 = .ok (.newarray .int, 2) := by decide +kernel
theorem dn_10_23 : decode prog_12_method_1_code 23 = .ok (.putfield 20, 3) := by decide +kernel
theorem dn_10_26 : decode prog_12_method_1_code 26 = .ok (.aload_n 0, 1) := by decide +kernel
theorem dn_10_27 : decode prog_12_method_1_code 27 = .ok (.aload_n 1, 1) := by decide +kernel
theorem dn_10_28 : decode prog_12_method_1_code 28 = .ok (.putfield 24, 3) := by decide +kernel
theorem dn_10_31 : decode prog_12_method_1_code 31 = .ok (.aload_n 0, 1) := by decide +kernel
theorem dn_10_32 : decode prog_12_method_1_code 32 = .ok (.aload_n 1, 1) := by decide +kernel
theorem dn_10_33 : decode prog_12_method_1_code 33 = .ok (.getfield 28, 3) := by decide +kernel
theorem dn_10_36 : decode prog_12_method_1_code 36 = .ok (.putfield 34, 3) := by decide +kernel
theorem dn_10_39 : decode prog_12_method_1_code 39 = .ok (.return_, 1) := by decide +kernel
theorem dn_11_0 : decode prog_1_method_1_code 0 = .ok (.aload_n 0, 1) := by decide +kernel
theorem dn_11_1 : decode prog_1_method_1_code 1 = .ok (.invokespecial 3, 3) := by decide +kernel
theorem dn_11_4 : decode prog_1_method_1_code 4 = .ok (.aload_n 0, 1) := by decide +kernel
theorem dn_11_5 : decode prog_1_method_1_code 5 = .ok (.new 9, 3) := by decide +kernel
theorem dn_11_8 : decode prog_1_method_1_code 8 = .ok (.dup, 1) := by decide +kernel
theorem dn_11_9 : decode prog_1_method_1_code 9 = .ok (.bipush 87, 2) := by decide +kernel
theorem dn_11_11 : decode prog_1_method_1_code 11 = .ok (.invokespecial 11, 3) := by decide +kernel
theorem dn_11_14 : decode prog_1_method_1_code 14 = .ok (.putfield 14, 3) := by decide +kernel
theorem dn_11_17 : decode prog_1_method_1_code 17 = .ok (.aload_n 0, 1) := by decide +kernel
theorem dn_11_18 : decode prog_1_method_1_code 18 = .ok (.new 9, 3) := by decide +kernel
theorem dn_11_21 : decode prog_1_method_1_code 21 = .ok (.dup, 1) := by decide +kernel
theorem dn_11_22 : decode prog_1_method_1_code 22 = .ok (.bipush 40, 2) := by decide +kernel
theorem dn_11_24 : decode prog_1_method_1_code 24 = .ok (.invokespecial 11, 3) := by decide +kernel
theorem dn_11_27 : decode prog_1_method_1_code 27 = .ok (.putfield 18, 3) := by decide +kernel
theorem dn_11_30 : decode prog_1_method_1_code 30 = .ok (.aload_n 0, 1) := by decide +kernel
theorem dn_11_31 : decode prog_1_method_1_code 31 = .ok (.new 9, 3) := by decide +kernel
theorem dn_11_34 : decode prog_1_method_1_code 34 = .ok (.dup, 1) := by decide +kernel
theorem dn_11_35 : decode prog_1_method_1_code 35 = .ok (.bipush 32, 2) := by decide +kernel
theorem dn_11_37 : decode prog_1_method_1_code 37 = .ok (.invokespecial 11, 3) := by decide +kernel
theorem dn_11_40 : decode prog_1_method_1_code 40 = .ok (.putfield 21, 3) := by decide +kernel
theorem dn_11_43 : decode prog_1_method_1_code 43 = .ok (.aload_n 0, 1) := by decide +kernel
theorem dn_11_44 : decode prog_1_method_1_code 44 = .ok (.new 24, 3) := by decide +kernel
theorem dn_11_47 : decode prog_1_method_1_code 47 = .ok (.dup, 1) := by decide +kernel
theorem dn_11_48 : decode prog_1_method_1_code 48 = .ok (.invokespecial 26, 3) := by decide +kernel
theorem dn_11_51 : decode prog_1_method_1_code 51 = .ok (.putfield 27, 3) := by decide +kernel
theorem dn_11_54 : decode prog_1_method_1_code 54 = .ok (.aload_n 0, 1) := by decide +kernel
theorem dn_11_55 : decode prog_1_method_1_code 55 = .ok (.new 31, 3) := by decide +kernel
theorem dn_11_58 : decode prog_1_method_1_code 58 = .ok (.dup, 1) := by decide +kernel
theorem dn_11_59 : decode prog_1_method_1_code 59 = .ok (.aload_n 0, 1) := by decide +kernel
theorem dn_11_60 : decode prog_1_method_1_code 60 = .ok (.getfield 27, 3) := by decide +kernel
theorem dn_11_63 : decode prog_1_method_1_code 63 = .ok (.invokespecial 33, 3) := by decide +kernel
theorem dn_11_66 : decode prog_1_method_1_code 66 = .ok (.putfield 36, 3) := by decide +kernel
theorem dn_11_69 : decode prog_1_method_1_code 69 = .ok (.aload_n 0, 1) := by decide +kernel
theorem dn_11_70 : decode prog_1_method_1_code 70 = .ok (.new 40, 3) := by decide +kernel
theorem dn_11_73 : decode prog_1_method_1_code 73 = .ok (.dup, 1) := by decide +kernel
theorem dn_11_74 : decode prog_1_method_1_code 74 = .ok (.aload_n 0, 1) := by decide +kernel
theorem dn_11_75 : decode prog_1_method_1_code 75 = .ok (.getfield 27, 3) := by decide +kernel
theorem dn_11_78 : decode prog_1_method_1_code 78 = .ok (.invokespecial 42, 3) := by decide +kernel
theorem dn_11_81 : decode prog_1_method_1_code 81 = .ok (.putfield 43, 3) := by decide +kernel
theorem dn_11_84 : decode prog_1_method_1_code 84 = .ok (.aload_n 0, 1) := by decide +kernel
theorem dn_11_85 : decode prog_1_method_1_code 85 = .ok (.new 47, 3) := by decide +kernel
theorem dn_11_88 : decode prog_1_method_1_code 88 = .ok (.dup, 1) := by decide +kernel
theorem dn_11_89 : decode prog_1_method_1_code 89 = .ok (.aload_n 0, 1) := by decide +kernel
theorem dn_11_90 : decode prog_1_method_1_code 90 = .ok (.getfield 27, 3) := by decide +kernel
theorem dn_11_93 : decode prog_1_method_1_code 93 = .ok (.invokespecial 49, 3) := by decide +kernel
theorem dn_11_96 : decode prog_1_method_1_code 96 = .ok (.putfield 50, 3) := by decide +kernel
theorem dn_11_99 : decode prog_1_method_1_code 99 = .ok (.aload_n 0, 1) := by decide +kernel
theorem dn_11_100 : decode prog_1_method_1_code 100 = .ok (.iconst 4, 1) := by decide +kernel
theorem dn_11_101 : decode prog_1_method_1_code 101 = .ok (.anewarray 54, 3) := by decide +kernel
theorem dn_11_104 : decode prog_1_method_1_code 104 = .ok (.putfield 56, 3) := by decide +kernel
theorem dn_11_107 : decode prog_1_method_1_code 107 = .ok (.iconst 0, 1) := by decide +kernel
theorem dn_11_108 : decode prog_1_method_1_code 108 = .ok (.istore_n 1, 1) := by decide +kernel
theorem dn_11_109 : decode prog_1_method_1_code 109 = .ok (.iload_n 1, 1) := by decide +kernel
theorem dn_11_110 : decode prog_1_method_1_code 110 = .ok (.iconst 4, 1) := by decide +kernel
theorem dn_11_111 : decode prog_1_method_1_code 111 = .ok (.if_icmp .ge 22, 3) := by decide +kernel
theorem dn_11_114 : decode prog_1_method_1_code 114 = .ok (.aload_n 0, 1) := by decide +kernel
theorem dn_11_115 : decode prog_1_method_1_code 115 = .ok (.getfield 56, 3) := by decide +kernel
theorem dn_11_118 : decode prog_1_method_1_code 118 = .ok (.iload_n 1, 1) := by decide +kernel
theorem dn_11_119 : decode prog_1_method_1_code 119 = .ok (.new 54, 3) := by decide +kernel
theorem dn_11_122 : decode prog_1_method_1_code 122 = .ok (.dup, 1) := by decide +kernel
theorem dn_11_123 : decode prog_1_method_1_code 123 = .ok (.invokespecial 60, 3) := by decide +kernel
theorem dn_11_126 : decode prog_1_method_1_code 126 = .ok (.aastore, 1) := by decide +kernel
theorem dn_11_127 : decode prog_1_method_1_code 127 = .ok (.iinc 1 1, 3) := by decide +kernel
theorem dn_11_130 : decode prog_1_method_1_code 130 = .ok (.goto (-21), 3) := by decide +kernel
theorem dn_11_133 : decode prog_1_method_1_code 133 = .ok (.aload_n 0, 1) := by decide +kernel
theorem dn_11_134 : decode prog_1_method_1_code 134 = .ok (.getfield 27, 3) := by decide +kernel
theorem dn_11_137 : decode prog_1_method_1_code 137 = .ok (.getfield 61, 3) := by decide +kernel
theorem dn_11_140 : decode prog_1_method_1_code 140 = .ok (.invokevirtual 65, 3) := by decide +kernel
theorem dn_11_143 : decode prog_1_method_1_code 143 = .ok (.return_, 1) := by decide +kernel
theorem dn_12_0 : decode prog_14_method_1_code 0 = .ok (.aload_n 0, 1) := by decide +kernel
theorem dn_12_1 : decode prog_14_method_1_code 1 = .ok (.invokespecial 1, 3) := by decide +kernel
theorem dn_12_4 : decode prog_14_method_1_code 4 = .ok (.aload_n 0, 1) := by decide +kernel
theorem dn_12_5 : decode prog_14_method_1_code 5 = .ok (.iconst 4, 1) := by decide +kernel
theorem dn_12_6 : decode prog_14_method_1_code 6 = .ok (.newarray .int, 2) := by decide +kernel
theorem dn_12_8 : decode prog_14_method_1_code 8 = .ok (.putfield 7, 3) := by decide +kernel
theorem dn_12_11 : decode prog_14_method_1_code 11 = .ok (.aload_n 0, 1) := by decide +kernel
theorem dn_12_12 : decode prog_14_method_1_code 12 = .ok (.iconst 4, 1) := by decide +kernel
theorem dn_12_13 : decode prog_14_method_1_code 13 = .ok (.newarray .int, 2) := by decide +kernel
theorem dn_12_15 : decode prog_14_method_1_code 15 = .ok (.putfield 13, 3) := by decide +kernel
theorem dn_12_18 : decode prog_14_method_1_code 18 = .ok (.aload_n 0, 1) := by decide +kernel
theorem dn_12_19 : decode prog_14_method_1_code 19 = .ok (.sipush 240, 3) := by decide +kernel
theorem dn_12_22 : decode prog_14_method_1_code 22 = .ok (.newarray .int, 2) := by decide +kernel
theorem dn_12_24 : decode prog_14_method_1_code 24 = .ok (.putfield 16, 3) := by decide +kernel
theorem dn_12_27 : decode prog_14_method_1_code 27 = .ok (.aload_n 0, 1) := by decide +kernel
theorem dn_12_28 : decode prog_14_method_1_code 28 = .ok (.bipush 60, 2) := by decide +kernel
theorem dn_12_30 : decode prog_14_method_1_code 30 = .ok (.newarray .int, 2) := by decide +kernel
theorem dn_12_32 : decode prog_14_method_1_code 32 = .ok (.putfield 19, 3) := by decide +kernel
theorem dn_12_35 : decode prog_14_method_1_code 35 = .ok (.aload_n 0, 1) := by decide +kernel
theorem dn_12_36 : decode prog_14_method_1_code 36 = .ok (.sipush 264, 3) := by decide +kernel
theorem dn_12_39 : decode prog_14_method_1_code 39 = .ok (.newarray .int, 2) := by decide +kernel
theorem dn_12_41 : decode prog_14_method_1_code 41 = .ok (.putfield 22, 3) := by decide +kernel
theorem dn_12_44 : decode prog_14_method_1_code 44 = .ok (.aload_n 0, 1) := by decide +kernel
theorem dn_12_45 : decode prog_14_method_1_code 45 = .ok (.iconst 3, 1) := by decide +kernel
theorem dn_12_46 : decode prog_14_method_1_code 46 = .ok (.newarray .int, 2) := by decide +kernel
theorem dn_12_48 : decode prog_14_method_1_code 48 = .ok (.putfield 25, 3) := by decide +kernel
theorem dn_12_51 : decode prog_14_method_1_code 51 = .ok (.aload_n 0, 1) := by decide +kernel
theorem dn_12_52 : decode prog_14_method_1_code 52 = .ok (.bipush 32, 2) := by decide +kernel
theorem dn_12_54 : decode prog_14_method_1_code 54 = .ok (.newarray .int, 2) := by decide +kernel
theorem dn_12_56 : decode prog_14_method_1_code 56 = .ok (.putfield 28, 3) := by decide +kernel
theorem dn_12_59 : decode prog_14_method_1_code 59 = .ok (.aload_n 0, 1) := by decide +kernel
theorem dn_12_60 : decode prog_14_method_1_code 60 = .ok (.bipush 8, 2) := by decide +kernel
theorem dn_12_62 : decode prog_14_method_1_code 62 = .ok (.newarray .int, 2) := by decide +kernel
theorem dn_12_64 : decode prog_14_method_1_code 64 = .ok (.putfield 31, 3) := by decide +kernel
theorem dn_12_67 : decode prog_14_method_1_code 67 = .ok (.aload_n 0, 1) := by decide +kernel
theorem dn_12_68 : decode prog_14_method_1_code 68 = .ok (.bipush 20, 2) := by decide +kernel
theorem dn_12_70 : decode prog_14_method_1_code 70 = .ok (.newarray .int, 2) := by decide +kernel
theorem dn_12_72 : decode prog_14_method_1_code 72 = .ok (.putfield 34, 3) := by decide +kernel
theorem dn_12_75 : decode prog_14_method_1_code 75 = .ok (.aload_n 0, 1) := by decide +kernel
theorem dn_12_76 : decode prog_14_method_1_code 76 = .ok (.bipush 20, 2) := by decide +kernel
theorem dn_12_78 : decode prog_14_method_1_code 78 = .ok (.newarray .int, 2) := by decide +kernel
theorem dn_12_80 : decode prog_14_method_1_code 80 = .ok (.putfield 37, 3) := by decide +kernel
theorem dn_12_83 : decode prog_14_method_1_code 83 = .ok (.aload_n 0, 1) := by decide +kernel
theorem dn_12_84 : decode prog_14_method_1_code 84 = .ok (.bipush 32, 2) := by decide +kernel
theorem dn_12_86 : decode prog_14_method_1_code 86 = .ok (.newarray .int, 2) := by decide +kernel
theorem dn_12_88 : decode prog_14_method_1_code 88 = .ok (.putfield 40, 3) := by decide +kernel
theorem dn_12_91 : decode prog_14_method_1_code 91 = .ok (.aload_n 0, 1) := by decide +kernel
theorem dn_12_92 : decode prog_14_method_1_code 92 = .ok (.bipush 8, 2) := by decide +kernel
theorem dn_12_94 : decode prog_14_method_1_code 94 = .ok (.newarray .int, 2) := by decide +kernel
theorem dn_12_96 : decode prog_14_method_1_code 96 = .ok (.putfield 43, 3) := by decide +kernel
theorem dn_12_99 : decode prog_14_method_1_code 99 = .ok (.aload_n 0, 1) := by decide +kernel
theorem dn_12_100 : decode prog_14_method_1_code 100 = .ok (.sipush 160, 3) := by decide +kernel
theorem dn_12_103 : decode prog_14_method_1_code 103 = .ok (.newarray .int, 2) := by decide +kernel
theorem dn_12_105 : decode prog_14_method_1_code 105 = .ok (.putfield 46, 3) := by decide +kernel
theorem dn_12_108 : decode prog_14_method_1_code 108 = .ok (.aload_n 0, 1) := by decide +kernel
theorem dn_12_109 : decode prog_14_method_1_code 109 = .ok (.sipush 160, 3) := by decide +kernel
theorem dn_12_112 : decode prog_14_method_1_code 112 = .ok (.newarray .int, 2) := by decide +kernel
theorem dn_12_114 : decode prog_14_method_1_code 114 = .ok (.putfield 49, 3) := by decide +kernel
theorem dn_12_117 : decode prog_14_method_1_code 117 = .ok (.aload_n 0, 1) := by decide +kernel
theorem dn_12_118 : decode prog_14_method_1_code 118 = .ok (.bipush 8, 2) := by decide +kernel
theorem dn_12_120 : decode prog_14_method_1_code 120 = .ok (.newarray .int, 2) := by decide +kernel
theorem dn_12_122 : decode prog_14_method_1_code 122 = .ok (.putfield 52, 3) := by decide +kernel
theorem dn_12_125 : decode prog_14_method_1_code 125 = .ok (.aload_n 0, 1) := by decide +kernel
theorem dn_12_126 : decode prog_14_method_1_code 126 = .ok (.bipush 8, 2) := by decide +kernel
theorem dn_12_128 : decode prog_14_method_1_code 128 = .ok (.newarray .int, 2) := by decide +kernel
theorem dn_12_130 : decode prog_14_method_1_code 130 = .ok (.putfield 55, 3) := by decide +kernel
theorem dn_12_133 : decode prog_14_method_1_code 133 = .ok (.aload_n 0, 1) := by decide +kernel
theorem dn_12_134 : decode prog_14_method_1_code 134 = .ok (.bipush 24, 2) := by decide +kernel
theorem dn_12_136 : decode prog_14_method_1_code 136 = .ok (.newarray .int, 2) := by decide +kernel
theorem dn_12_138 : decode prog_14_method_1_code 138 = .ok (.putfield 58, 3) := by decide +kernel
theorem dn_12_141 : decode prog_14_method_1_code 141 = .ok (.aload_n 0, 1) := by decide +kernel
theorem dn_12_142 : decode prog_14_method_1_code 142 = .ok (.sipush 256, 3) := by decide +kernel
theorem dn_12_145 : decode prog_14_method_1_code 145 = .ok (.newarray .int, 2) := by decide +kernel
theorem dn_12_147 : decode prog_14_method_1_code 147 = .ok (.putfield 61, 3) := by decide +kernel
theorem dn_12_150 : decode prog_14_method_1_code 150 = .ok (.iconst 0, 1) := by decide +kernel
theorem dn_12_151 : decode prog_14_method_1_code 151 = .ok (.istore_n 1, 1) := by decide +kernel
theorem dn_12_152 : decode prog_14_method_1_code 152 = .ok (.iload_n 1, 1) := by decide +kernel
theorem dn_12_153 : decode prog_14_method_1_code 153 = .ok (.iconst 4, 1) := by decide +kernel
theorem dn_12_154 : decode prog_14_method_1_code 154 = .ok (.if_icmp .ge 16, 3) := by decide +kernel
theorem dn_12_157 : decode prog_14_method_1_code 157 = .ok (.aload_n 0, 1) := by decide +kernel
theorem dn_12_158 : decode prog_14_method_1_code 158 = .ok (.getfield 7, 3) := by decide +kernel
theorem dn_12_161 : decode prog_14_method_1_code 161 = .ok (.iload_n 1, 1) := by decide +kernel
theorem dn_12_162 : decode prog_14_method_1_code 162 = .ok (.iconst (-1), 1) := by decide +kernel
theorem dn_12_163 : decode prog_14_method_1_code 163 = .ok (.iastore, 1) := by decide +kernel
theorem dn_12_164 : decode prog_14_method_1_code 164 = .ok (.iinc 1 1, 3) := by decide +kernel
theorem dn_12_167 : decode prog_14_method_1_code 167 = .ok (.goto (-15), 3) := by decide +kernel
theorem dn_12_170 : decode prog_14_method_1_code 170 = .ok (.aload_n 0, 1) := by decide +kernel
theorem dn_12_171 : decode prog_14_method_1_code 171 = .ok (.bipush 16, 2) := by decide +kernel
theorem dn_12_173 : decode prog_14_method_1_code 173 = .ok (.putfield 64, 3) := by decide +kernel
theorem dn_12_176 : decode prog_14_method_1_code 176 = .ok (.return_, 1) := by decide +kernel
def nb_0 : List Value := [.null, .null, .long 0, .long 0]
theorem nb_0_ok : ∀ j, j < 4 → defaultValue (qu_0 j) = vp_V nb_0 j := by
  intro j hj
  match j with
  | 0 => rfl
  | 1 => rfl
  | 2 => rfl
  | 3 => rfl
  | _ + 4 => exact absurd hj (by omega)
def nb_1 : List Value := [.null, .null, .int 0, .int 0]
theorem nb_1_ok : ∀ j, j < 4 → defaultValue (qu_1 j) = vp_V nb_1 j := by
  intro j hj
  match j with
  | 0 => rfl
  | 1 => rfl
  | 2 => rfl
  | 3 => rfl
  | _ + 4 => exact absurd hj (by omega)
def nb_2 : List Value := [.int 0, .int 0, .int 0]
theorem nb_2_ok : ∀ j, j < 3 → defaultValue (qu_2 j) = vp_V nb_2 j := by
  intro j hj
  match j with
  | 0 => rfl
  | 1 => rfl
  | 2 => rfl
  | _ + 3 => exact absurd hj (by omega)
def nb_3 : List Value := [.null, .int 0, .int 0]
theorem nb_3_ok : ∀ j, j < 3 → defaultValue (qu_3 j) = vp_V nb_3 j := by
  intro j hj
  match j with
  | 0 => rfl
  | 1 => rfl
  | 2 => rfl
  | _ + 3 => exact absurd hj (by omega)
def nb_4 : List Value := [.null, .null, .null, .null, .null, .null]
theorem nb_4_ok : ∀ j, j < 6 → defaultValue (qu_4 j) = vp_V nb_4 j := by
  intro j hj
  match j with
  | 0 => rfl
  | 1 => rfl
  | 2 => rfl
  | 3 => rfl
  | 4 => rfl
  | 5 => rfl
  | _ + 6 => exact absurd hj (by omega)
def nb_5 : List Value := [.null, .int 0]
theorem nb_5_ok : ∀ j, j < 2 → defaultValue (qu_5 j) = vp_V nb_5 j := by
  intro j hj
  match j with
  | 0 => rfl
  | 1 => rfl
  | _ + 2 => exact absurd hj (by omega)
def nb_6 : List Value := [.null, .int 0, .int 0]
theorem nb_6_ok : ∀ j, j < 3 → defaultValue (qu_6 j) = vp_V nb_6 j := by
  intro j hj
  match j with
  | 0 => rfl
  | 1 => rfl
  | 2 => rfl
  | _ + 3 => exact absurd hj (by omega)
def nb_7 : List Value := [.null, .null, .null, .null, .null, .int 0]
theorem nb_7_ok : ∀ j, j < 6 → defaultValue (qu_7 j) = vp_V nb_7 j := by
  intro j hj
  match j with
  | 0 => rfl
  | 1 => rfl
  | 2 => rfl
  | 3 => rfl
  | 4 => rfl
  | 5 => rfl
  | _ + 6 => exact absurd hj (by omega)
def nb_8 : List Value := [.null, .null, .null, .null, .null, .null, .null, .null, .int 0]
theorem nb_8_ok : ∀ j, j < 9 → defaultValue (qu_8 j) = vp_V nb_8 j := by
  intro j hj
  match j with
  | 0 => rfl
  | 1 => rfl
  | 2 => rfl
  | 3 => rfl
  | 4 => rfl
  | 5 => rfl
  | 6 => rfl
  | 7 => rfl
  | 8 => rfl
  | _ + 9 => exact absurd hj (by omega)
def nb_9 : List Value := [.null, .null, .null, .null, .null, .int 0, .int 0]
theorem nb_9_ok : ∀ j, j < 7 → defaultValue (qu_9 j) = vp_V nb_9 j := by
  intro j hj
  match j with
  | 0 => rfl
  | 1 => rfl
  | 2 => rfl
  | 3 => rfl
  | 4 => rfl
  | 5 => rfl
  | 6 => rfl
  | _ + 7 => exact absurd hj (by omega)
def nb_10 : List Value := [.null, .null, .null, .null]
theorem nb_10_ok : ∀ j, j < 4 → defaultValue (qu_10 j) = vp_V nb_10 j := by
  intro j hj
  match j with
  | 0 => rfl
  | 1 => rfl
  | 2 => rfl
  | 3 => rfl
  | _ + 4 => exact absurd hj (by omega)
def nb_11 : List Value := [.null, .null, .null, .null, .null, .null, .null, .null, .int 0]
theorem nb_11_ok : ∀ j, j < 9 → defaultValue (qu_11 j) = vp_V nb_11 j := by
  intro j hj
  match j with
  | 0 => rfl
  | 1 => rfl
  | 2 => rfl
  | 3 => rfl
  | 4 => rfl
  | 5 => rfl
  | 6 => rfl
  | 7 => rfl
  | 8 => rfl
  | _ + 9 => exact absurd hj (by omega)
def nb_12 : List Value := [.null, .null, .null, .null, .int 0, .null, .null, .int 0, .null, .null, .null, .null, .null, .int 0, .int 0, .null, .null, .null, .null, .null, .int 0, .int 0, .int 0, .null, .null, .int 0]
theorem nb_12_ok : ∀ j, j < 26 → defaultValue (qu_12 j) = vp_V nb_12 j := by
  intro j hj
  match j with
  | 0 => rfl
  | 1 => rfl
  | 2 => rfl
  | 3 => rfl
  | 4 => rfl
  | 5 => rfl
  | 6 => rfl
  | 7 => rfl
  | 8 => rfl
  | 9 => rfl
  | 10 => rfl
  | 11 => rfl
  | 12 => rfl
  | 13 => rfl
  | 14 => rfl
  | 15 => rfl
  | 16 => rfl
  | 17 => rfl
  | 18 => rfl
  | 19 => rfl
  | 20 => rfl
  | 21 => rfl
  | 22 => rfl
  | 23 => rfl
  | 24 => rfl
  | 25 => rfl
  | _ + 26 => exact absurd hj (by omega)
