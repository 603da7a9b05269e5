/-! THE LAW (printed by wip/whole/gen61.py) -/
theorem tz_431 : Jvm.Cond.methodLink "ShadowTheatreLaw" (13 : Nat) ({ cls := "ShadowTheatre", name := "type", desc := "(II)I" } : Jvm.MethodName) ∈ qw_tw := qw_in2 118 rfl rfl
theorem tz_432 : Jvm.Cond.instanceMethod ({ cls := "ShadowTheatre", name := "type", desc := "(II)I" } : Jvm.MethodName) ∈ qw_tw := qw_in2 119 rfl rfl
theorem tz_433 : Jvm.Cond.selects "ShadowTheatre" ({ cls := "ShadowTheatre", name := "type", desc := "(II)I" } : Jvm.MethodName) ({ cls := "ShadowTheatre", name := "type", desc := "(II)I" } : Jvm.MethodName) ∈ qw_tw := qw_in2 120 rfl rfl
theorem tz_434 : Jvm.Cond.code ({ cls := "ShadowTheatre", name := "type", desc := "(II)I" } : Jvm.MethodName) prog_1_method_2_code (4 : Nat) (Option.some Jvm.ClassFile.FieldType.int) ∈ qw_tw := qw_in2 121 rfl rfl
theorem tz_580 : Jvm.Cond.methodLink "ShadowTheatreLaw" (18 : Nat) ({ cls := "ShadowTheatre", name := "wipe", desc := "(I)I" } : Jvm.MethodName) ∈ qw_tw := qw_in3 27 rfl rfl
theorem tz_581 : Jvm.Cond.instanceMethod ({ cls := "ShadowTheatre", name := "wipe", desc := "(I)I" } : Jvm.MethodName) ∈ qw_tw := qw_in3 28 rfl rfl
theorem tz_582 : Jvm.Cond.selects "ShadowTheatre" ({ cls := "ShadowTheatre", name := "wipe", desc := "(I)I" } : Jvm.MethodName) ({ cls := "ShadowTheatre", name := "wipe", desc := "(I)I" } : Jvm.MethodName) ∈ qw_tw := qw_in3 29 rfl rfl
theorem tz_583 : Jvm.Cond.code ({ cls := "ShadowTheatre", name := "wipe", desc := "(I)I" } : Jvm.MethodName) prog_1_method_3_code (4 : Nat) (Option.some Jvm.ClassFile.FieldType.int) ∈ qw_tw := qw_in3 30 rfl rfl
theorem tz_588 : Jvm.Cond.methodLink "ShadowTheatreLaw" (23 : Nat) ({ cls := "ShadowTheatre", name := "undo", desc := "(I)I" } : Jvm.MethodName) ∈ qw_tw := qw_in3 35 rfl rfl
theorem tz_589 : Jvm.Cond.instanceMethod ({ cls := "ShadowTheatre", name := "undo", desc := "(I)I" } : Jvm.MethodName) ∈ qw_tw := qw_in3 36 rfl rfl
theorem tz_590 : Jvm.Cond.selects "ShadowTheatre" ({ cls := "ShadowTheatre", name := "undo", desc := "(I)I" } : Jvm.MethodName) ({ cls := "ShadowTheatre", name := "undo", desc := "(I)I" } : Jvm.MethodName) ∈ qw_tw := qw_in3 37 rfl rfl
theorem tz_591 : Jvm.Cond.code ({ cls := "ShadowTheatre", name := "undo", desc := "(I)I" } : Jvm.MethodName) prog_1_method_4_code (3 : Nat) (Option.some Jvm.ClassFile.FieldType.int) ∈ qw_tw := qw_in3 38 rfl rfl
theorem tz_596 : Jvm.Cond.methodLink "ShadowTheatreLaw" (27 : Nat) ({ cls := "ShadowTheatre", name := "fault", desc := "(I)I" } : Jvm.MethodName) ∈ qw_tw := qw_in3 43 rfl rfl
theorem tz_600 : Jvm.Cond.methodLink "ShadowTheatreLaw" (31 : Nat) ({ cls := "ShadowTheatre", name := "figure", desc := "(II)I" } : Jvm.MethodName) ∈ qw_tw := qw_in3 47 rfl rfl
theorem tz_613 : Jvm.Cond.methodLink "ShadowTheatreLaw" (35 : Nat) ({ cls := "ShadowTheatre", name := "cue", desc := "(II)I" } : Jvm.MethodName) ∈ qw_tw := qw_in3 60 rfl rfl
theorem tz_614 : Jvm.Cond.instanceMethod ({ cls := "ShadowTheatre", name := "cue", desc := "(II)I" } : Jvm.MethodName) ∈ qw_tw := qw_in3 61 rfl rfl
theorem tz_615 : Jvm.Cond.selects "ShadowTheatre" ({ cls := "ShadowTheatre", name := "cue", desc := "(II)I" } : Jvm.MethodName) ({ cls := "ShadowTheatre", name := "cue", desc := "(II)I" } : Jvm.MethodName) ∈ qw_tw := qw_in3 62 rfl rfl
theorem tz_616 : Jvm.Cond.code ({ cls := "ShadowTheatre", name := "cue", desc := "(II)I" } : Jvm.MethodName) prog_1_method_7_code (3 : Nat) (Option.some Jvm.ClassFile.FieldType.int) ∈ qw_tw := qw_in3 63 rfl rfl
theorem tz_625 : Jvm.Cond.methodLink "ShadowTheatreLaw" (39 : Nat) ({ cls := "ShadowTheatre", name := "picture", desc := "(I)I" } : Jvm.MethodName) ∈ qw_tw := qw_in3 72 rfl rfl
theorem tz_637 : Jvm.Cond.methodLink "ShadowTheatreLaw" (43 : Nat) ({ cls := "ShadowTheatre", name := "lamp", desc := "(I)I" } : Jvm.MethodName) ∈ qw_tw := qw_in3 84 rfl rfl
theorem tz_638 : Jvm.Cond.instanceMethod ({ cls := "ShadowTheatre", name := "lamp", desc := "(I)I" } : Jvm.MethodName) ∈ qw_tw := qw_in3 85 rfl rfl
theorem tz_639 : Jvm.Cond.selects "ShadowTheatre" ({ cls := "ShadowTheatre", name := "lamp", desc := "(I)I" } : Jvm.MethodName) ({ cls := "ShadowTheatre", name := "lamp", desc := "(I)I" } : Jvm.MethodName) ∈ qw_tw := qw_in3 86 rfl rfl
theorem tz_640 : Jvm.Cond.code ({ cls := "ShadowTheatre", name := "lamp", desc := "(I)I" } : Jvm.MethodName) prog_1_method_9_code (3 : Nat) (Option.some Jvm.ClassFile.FieldType.int) ∈ qw_tw := qw_in3 87 rfl rfl
theorem tz_641 : Jvm.Cond.methodLink "ShadowTheatreLaw" (47 : Nat) ({ cls := "ShadowTheatre", name := "flicker", desc := "(I)I" } : Jvm.MethodName) ∈ qw_tw := qw_in3 88 rfl rfl
theorem tz_642 : Jvm.Cond.instanceMethod ({ cls := "ShadowTheatre", name := "flicker", desc := "(I)I" } : Jvm.MethodName) ∈ qw_tw := qw_in3 89 rfl rfl
theorem tz_643 : Jvm.Cond.selects "ShadowTheatre" ({ cls := "ShadowTheatre", name := "flicker", desc := "(I)I" } : Jvm.MethodName) ({ cls := "ShadowTheatre", name := "flicker", desc := "(I)I" } : Jvm.MethodName) ∈ qw_tw := qw_in3 90 rfl rfl
theorem tz_644 : Jvm.Cond.code ({ cls := "ShadowTheatre", name := "flicker", desc := "(I)I" } : Jvm.MethodName) prog_1_method_10_code (2 : Nat) (Option.some Jvm.ClassFile.FieldType.int) ∈ qw_tw := qw_in3 91 rfl rfl
theorem tz_645 : Jvm.Cond.methodLink "ShadowTheatreLaw" (51 : Nat) ({ cls := "ShadowTheatre", name := "back", desc := "()I" } : Jvm.MethodName) ∈ qw_tw := qw_in3 92 rfl rfl
theorem tz_646 : Jvm.Cond.instanceMethod ({ cls := "ShadowTheatre", name := "back", desc := "()I" } : Jvm.MethodName) ∈ qw_tw := qw_in3 93 rfl rfl
theorem tz_647 : Jvm.Cond.selects "ShadowTheatre" ({ cls := "ShadowTheatre", name := "back", desc := "()I" } : Jvm.MethodName) ({ cls := "ShadowTheatre", name := "back", desc := "()I" } : Jvm.MethodName) ∈ qw_tw := qw_in3 94 rfl rfl
theorem tz_648 : Jvm.Cond.code ({ cls := "ShadowTheatre", name := "back", desc := "()I" } : Jvm.MethodName) prog_1_method_11_code (1 : Nat) (Option.some Jvm.ClassFile.FieldType.int) ∈ qw_tw := qw_in3 95 rfl rfl
theorem tz_649 : Jvm.Cond.methodLink "ShadowTheatreLaw" (56 : Nat) ({ cls := "ShadowTheatre", name := "read", desc := "(I)I" } : Jvm.MethodName) ∈ qw_tw := qw_in3 96 rfl rfl
theorem tz_650 : Jvm.Cond.instanceMethod ({ cls := "ShadowTheatre", name := "read", desc := "(I)I" } : Jvm.MethodName) ∈ qw_tw := qw_in3 97 rfl rfl
theorem tz_651 : Jvm.Cond.selects "ShadowTheatre" ({ cls := "ShadowTheatre", name := "read", desc := "(I)I" } : Jvm.MethodName) ({ cls := "ShadowTheatre", name := "read", desc := "(I)I" } : Jvm.MethodName) ∈ qw_tw := qw_in3 98 rfl rfl
theorem tz_652 : Jvm.Cond.code ({ cls := "ShadowTheatre", name := "read", desc := "(I)I" } : Jvm.MethodName) prog_1_method_12_code (4 : Nat) (Option.some Jvm.ClassFile.FieldType.int) ∈ qw_tw := qw_in3 99 rfl rfl
theorem tz_673 : Jvm.Cond.methodLink "ShadowTheatreLaw" (60 : Nat) ({ cls := "ShadowTheatre", name := "light", desc := "(II)I" } : Jvm.MethodName) ∈ qw_tw := qw_in3 120 rfl rfl
theorem tz_719 : Jvm.Cond.methodLink "ShadowTheatreLaw" (64 : Nat) ({ cls := "ShadowTheatre", name := "covers", desc := "(II)I" } : Jvm.MethodName) ∈ qw_tw := qw_in3 166 rfl rfl
theorem tz_732 : Jvm.Cond.methodLink "ShadowTheatreLaw" (68 : Nat) ({ cls := "ShadowTheatre", name := "at", desc := "(III)I" } : Jvm.MethodName) ∈ qw_tw := qw_in3 179 rfl rfl
theorem tz_733 : Jvm.Cond.instanceMethod ({ cls := "ShadowTheatre", name := "at", desc := "(III)I" } : Jvm.MethodName) ∈ qw_tw := qw_in3 180 rfl rfl
theorem tz_734 : Jvm.Cond.selects "ShadowTheatre" ({ cls := "ShadowTheatre", name := "at", desc := "(III)I" } : Jvm.MethodName) ({ cls := "ShadowTheatre", name := "at", desc := "(III)I" } : Jvm.MethodName) ∈ qw_tw := qw_in3 181 rfl rfl
theorem tz_735 : Jvm.Cond.code ({ cls := "ShadowTheatre", name := "at", desc := "(III)I" } : Jvm.MethodName) prog_1_method_15_code (4 : Nat) (Option.some Jvm.ClassFile.FieldType.int) ∈ qw_tw := qw_in3 182 rfl rfl
theorem tz_757 : Jvm.Cond.methodLink "ShadowTheatreLaw" (73 : Nat) ({ cls := "ShadowTheatre", name := "screen", desc := "(II)I" } : Jvm.MethodName) ∈ qw_tw := qw_in3 204 rfl rfl
theorem tz_775 : Jvm.Cond.methodLink "ShadowTheatreLaw" (77 : Nat) ({ cls := "ShadowTheatre", name := "shown", desc := "(I)I" } : Jvm.MethodName) ∈ qw_tw := qw_in3 222 rfl rfl
theorem tz_794 : Jvm.Cond.methodLink "ShadowTheatreLaw" (81 : Nat) ({ cls := "ShadowTheatre", name := "touched", desc := "(I)I" } : Jvm.MethodName) ∈ qw_tw := qw_in4 1 rfl rfl
theorem tz_806 : Jvm.Cond.methodLink "ShadowTheatreLaw" (85 : Nat) ({ cls := "ShadowTheatre", name := "darkest", desc := "()I" } : Jvm.MethodName) ∈ qw_tw := qw_in4 13 rfl rfl
theorem tz_815 : Jvm.Cond.methodLink "ShadowTheatreLaw" (89 : Nat) ({ cls := "ShadowTheatre", name := "hang", desc := "(III)I" } : Jvm.MethodName) ∈ qw_tw := qw_in4 22 rfl rfl
theorem tz_816 : Jvm.Cond.instanceMethod ({ cls := "ShadowTheatre", name := "hang", desc := "(III)I" } : Jvm.MethodName) ∈ qw_tw := qw_in4 23 rfl rfl
theorem tz_817 : Jvm.Cond.selects "ShadowTheatre" ({ cls := "ShadowTheatre", name := "hang", desc := "(III)I" } : Jvm.MethodName) ({ cls := "ShadowTheatre", name := "hang", desc := "(III)I" } : Jvm.MethodName) ∈ qw_tw := qw_in4 24 rfl rfl
theorem tz_818 : Jvm.Cond.code ({ cls := "ShadowTheatre", name := "hang", desc := "(III)I" } : Jvm.MethodName) prog_1_method_20_code (4 : Nat) (Option.some Jvm.ClassFile.FieldType.int) ∈ qw_tw := qw_in4 25 rfl rfl
theorem tz_855 : Jvm.Cond.methodLink "ShadowTheatreLaw" (93 : Nat) ({ cls := "ShadowTheatre", name := "shift", desc := "(II)I" } : Jvm.MethodName) ∈ qw_tw := qw_in4 62 rfl rfl
theorem tz_856 : Jvm.Cond.instanceMethod ({ cls := "ShadowTheatre", name := "shift", desc := "(II)I" } : Jvm.MethodName) ∈ qw_tw := qw_in4 63 rfl rfl
theorem tz_857 : Jvm.Cond.selects "ShadowTheatre" ({ cls := "ShadowTheatre", name := "shift", desc := "(II)I" } : Jvm.MethodName) ({ cls := "ShadowTheatre", name := "shift", desc := "(II)I" } : Jvm.MethodName) ∈ qw_tw := qw_in4 64 rfl rfl
theorem tz_858 : Jvm.Cond.code ({ cls := "ShadowTheatre", name := "shift", desc := "(II)I" } : Jvm.MethodName) prog_1_method_21_code (3 : Nat) (Option.some Jvm.ClassFile.FieldType.int) ∈ qw_tw := qw_in4 65 rfl rfl
theorem tz_863 : Jvm.Cond.methodLink "ShadowTheatreLaw" (97 : Nat) ({ cls := "ShadowTheatre", name := "more", desc := "(I)I" } : Jvm.MethodName) ∈ qw_tw := qw_in4 70 rfl rfl
theorem tz_864 : Jvm.Cond.instanceMethod ({ cls := "ShadowTheatre", name := "more", desc := "(I)I" } : Jvm.MethodName) ∈ qw_tw := qw_in4 71 rfl rfl
theorem tz_865 : Jvm.Cond.selects "ShadowTheatre" ({ cls := "ShadowTheatre", name := "more", desc := "(I)I" } : Jvm.MethodName) ({ cls := "ShadowTheatre", name := "more", desc := "(I)I" } : Jvm.MethodName) ∈ qw_tw := qw_in4 72 rfl rfl
theorem tz_866 : Jvm.Cond.code ({ cls := "ShadowTheatre", name := "more", desc := "(I)I" } : Jvm.MethodName) prog_1_method_22_code (2 : Nat) (Option.some Jvm.ClassFile.FieldType.int) ∈ qw_tw := qw_in4 73 rfl rfl
theorem tz_878 : Jvm.Cond.methodLink "ShadowTheatreLaw" (101 : Nat) ({ cls := "ShadowTheatre", name := "leave", desc := "(II)I" } : Jvm.MethodName) ∈ qw_tw := qw_in4 85 rfl rfl
theorem tz_879 : Jvm.Cond.instanceMethod ({ cls := "ShadowTheatre", name := "leave", desc := "(II)I" } : Jvm.MethodName) ∈ qw_tw := qw_in4 86 rfl rfl
theorem tz_880 : Jvm.Cond.selects "ShadowTheatre" ({ cls := "ShadowTheatre", name := "leave", desc := "(II)I" } : Jvm.MethodName) ({ cls := "ShadowTheatre", name := "leave", desc := "(II)I" } : Jvm.MethodName) ∈ qw_tw := qw_in4 87 rfl rfl
theorem tz_881 : Jvm.Cond.code ({ cls := "ShadowTheatre", name := "leave", desc := "(II)I" } : Jvm.MethodName) prog_1_method_23_code (3 : Nat) (Option.some Jvm.ClassFile.FieldType.int) ∈ qw_tw := qw_in4 88 rfl rfl
theorem tz_890 : Jvm.Cond.methodLink "ShadowTheatreLaw" (105 : Nat) ({ cls := "ShadowTheatre", name := "seen", desc := "(III)I" } : Jvm.MethodName) ∈ qw_tw := qw_in4 97 rfl rfl
theorem tz_891 : Jvm.Cond.instanceMethod ({ cls := "ShadowTheatre", name := "seen", desc := "(III)I" } : Jvm.MethodName) ∈ qw_tw := qw_in4 98 rfl rfl
theorem tz_892 : Jvm.Cond.selects "ShadowTheatre" ({ cls := "ShadowTheatre", name := "seen", desc := "(III)I" } : Jvm.MethodName) ({ cls := "ShadowTheatre", name := "seen", desc := "(III)I" } : Jvm.MethodName) ∈ qw_tw := qw_in4 99 rfl rfl
theorem tz_893 : Jvm.Cond.code ({ cls := "ShadowTheatre", name := "seen", desc := "(III)I" } : Jvm.MethodName) prog_1_method_24_code (4 : Nat) (Option.some Jvm.ClassFile.FieldType.int) ∈ qw_tw := qw_in4 100 rfl rfl
theorem tz_899 : Jvm.Cond.methodLink "ShadowTheatreLaw" (109 : Nat) ({ cls := "ShadowTheatre", name := "forget", desc := "()I" } : Jvm.MethodName) ∈ qw_tw := qw_in4 106 rfl rfl
theorem tz_900 : Jvm.Cond.instanceMethod ({ cls := "ShadowTheatre", name := "forget", desc := "()I" } : Jvm.MethodName) ∈ qw_tw := qw_in4 107 rfl rfl
theorem tz_901 : Jvm.Cond.selects "ShadowTheatre" ({ cls := "ShadowTheatre", name := "forget", desc := "()I" } : Jvm.MethodName) ({ cls := "ShadowTheatre", name := "forget", desc := "()I" } : Jvm.MethodName) ∈ qw_tw := qw_in4 108 rfl rfl
theorem tz_902 : Jvm.Cond.code ({ cls := "ShadowTheatre", name := "forget", desc := "()I" } : Jvm.MethodName) prog_1_method_25_code (1 : Nat) (Option.some Jvm.ClassFile.FieldType.int) ∈ qw_tw := qw_in4 109 rfl rfl
theorem tz_903 : Jvm.Cond.methodLink "ShadowTheatreLaw" (113 : Nat) ({ cls := "ShadowTheatre", name := "never", desc := "()I" } : Jvm.MethodName) ∈ qw_tw := qw_in4 110 rfl rfl
theorem tz_939 : Jvm.Cond.methodLink "ShadowTheatreLaw" (117 : Nat) ({ cls := "ShadowTheatre", name := "was", desc := "(II)I" } : Jvm.MethodName) ∈ qw_tw := qw_in4 146 rfl rfl
theorem tz_940 : Jvm.Cond.instanceMethod ({ cls := "ShadowTheatre", name := "was", desc := "(II)I" } : Jvm.MethodName) ∈ qw_tw := qw_in4 147 rfl rfl
theorem tz_941 : Jvm.Cond.selects "ShadowTheatre" ({ cls := "ShadowTheatre", name := "was", desc := "(II)I" } : Jvm.MethodName) ({ cls := "ShadowTheatre", name := "was", desc := "(II)I" } : Jvm.MethodName) ∈ qw_tw := qw_in4 148 rfl rfl
theorem tz_942 : Jvm.Cond.code ({ cls := "ShadowTheatre", name := "was", desc := "(II)I" } : Jvm.MethodName) prog_1_method_27_code (3 : Nat) (Option.some Jvm.ClassFile.FieldType.int) ∈ qw_tw := qw_in4 149 rfl rfl
theorem tz_957 : Jvm.Cond.methodLink "ShadowTheatreLaw" (121 : Nat) ({ cls := "ShadowTheatre", name := "ask", desc := "(I)I" } : Jvm.MethodName) ∈ qw_tw := qw_in4 164 rfl rfl
theorem tz_958 : Jvm.Cond.instanceMethod ({ cls := "ShadowTheatre", name := "ask", desc := "(I)I" } : Jvm.MethodName) ∈ qw_tw := qw_in4 165 rfl rfl
theorem tz_959 : Jvm.Cond.selects "ShadowTheatre" ({ cls := "ShadowTheatre", name := "ask", desc := "(I)I" } : Jvm.MethodName) ({ cls := "ShadowTheatre", name := "ask", desc := "(I)I" } : Jvm.MethodName) ∈ qw_tw := qw_in4 166 rfl rfl
theorem tz_960 : Jvm.Cond.code ({ cls := "ShadowTheatre", name := "ask", desc := "(I)I" } : Jvm.MethodName) prog_1_method_28_code (2 : Nat) (Option.some Jvm.ClassFile.FieldType.int) ∈ qw_tw := qw_in4 167 rfl rfl
theorem tz_971 : Jvm.Cond.methodLink "ShadowTheatreLaw" (125 : Nat) ({ cls := "ShadowTheatre", name := "stumble", desc := "(IIII)J" } : Jvm.MethodName) ∈ qw_tw := qw_in4 178 rfl rfl
theorem tz_972 : Jvm.Cond.instanceMethod ({ cls := "ShadowTheatre", name := "stumble", desc := "(IIII)J" } : Jvm.MethodName) ∈ qw_tw := qw_in4 179 rfl rfl
theorem tz_973 : Jvm.Cond.selects "ShadowTheatre" ({ cls := "ShadowTheatre", name := "stumble", desc := "(IIII)J" } : Jvm.MethodName) ({ cls := "ShadowTheatre", name := "stumble", desc := "(IIII)J" } : Jvm.MethodName) ∈ qw_tw := qw_in4 180 rfl rfl
theorem tz_974 : Jvm.Cond.code ({ cls := "ShadowTheatre", name := "stumble", desc := "(IIII)J" } : Jvm.MethodName) prog_1_method_29_code (5 : Nat) (Option.some Jvm.ClassFile.FieldType.long) ∈ qw_tw := qw_in4 181 rfl rfl
theorem tz_1005 : Jvm.Cond.methodLink "ShadowTheatreLaw" (130 : Nat) ({ cls := "ShadowTheatre", name := "play", desc := "(III)I" } : Jvm.MethodName) ∈ qw_tw := qw_in4 212 rfl rfl
theorem tz_1006 : Jvm.Cond.instanceMethod ({ cls := "ShadowTheatre", name := "play", desc := "(III)I" } : Jvm.MethodName) ∈ qw_tw := qw_in4 213 rfl rfl
theorem tz_1007 : Jvm.Cond.selects "ShadowTheatre" ({ cls := "ShadowTheatre", name := "play", desc := "(III)I" } : Jvm.MethodName) ({ cls := "ShadowTheatre", name := "play", desc := "(III)I" } : Jvm.MethodName) ∈ qw_tw := qw_in4 214 rfl rfl
theorem tz_1008 : Jvm.Cond.code ({ cls := "ShadowTheatre", name := "play", desc := "(III)I" } : Jvm.MethodName) prog_1_method_30_code (4 : Nat) (Option.some Jvm.ClassFile.FieldType.int) ∈ qw_tw := qw_in4 215 rfl rfl
theorem tz_1031 : Jvm.Cond.methodLink "ShadowTheatreLaw" (134 : Nat) ({ cls := "ShadowTheatre", name := "sheet", desc := "(III)I" } : Jvm.MethodName) ∈ qw_tw := qw_in4 238 rfl rfl
theorem tz_1032 : Jvm.Cond.instanceMethod ({ cls := "ShadowTheatre", name := "sheet", desc := "(III)I" } : Jvm.MethodName) ∈ qw_tw := qw_in4 239 rfl rfl
theorem tz_1033 : Jvm.Cond.selects "ShadowTheatre" ({ cls := "ShadowTheatre", name := "sheet", desc := "(III)I" } : Jvm.MethodName) ({ cls := "ShadowTheatre", name := "sheet", desc := "(III)I" } : Jvm.MethodName) ∈ qw_tw := qw_in5 0 rfl rfl
theorem tz_1034 : Jvm.Cond.code ({ cls := "ShadowTheatre", name := "sheet", desc := "(III)I" } : Jvm.MethodName) prog_1_method_31_code (5 : Nat) (Option.some Jvm.ClassFile.FieldType.int) ∈ qw_tw := qw_in5 1 rfl rfl
theorem tz_1040 : Jvm.Cond.methodLink "ShadowTheatreLaw" (138 : Nat) ({ cls := "ShadowTheatre", name := "lose", desc := "(I)I" } : Jvm.MethodName) ∈ qw_tw := qw_in5 7 rfl rfl
theorem tz_1041 : Jvm.Cond.instanceMethod ({ cls := "ShadowTheatre", name := "lose", desc := "(I)I" } : Jvm.MethodName) ∈ qw_tw := qw_in5 8 rfl rfl
theorem tz_1042 : Jvm.Cond.selects "ShadowTheatre" ({ cls := "ShadowTheatre", name := "lose", desc := "(I)I" } : Jvm.MethodName) ({ cls := "ShadowTheatre", name := "lose", desc := "(I)I" } : Jvm.MethodName) ∈ qw_tw := qw_in5 9 rfl rfl
theorem tz_1043 : Jvm.Cond.code ({ cls := "ShadowTheatre", name := "lose", desc := "(I)I" } : Jvm.MethodName) prog_1_method_32_code (3 : Nat) (Option.some Jvm.ClassFile.FieldType.int) ∈ qw_tw := qw_in5 10 rfl rfl
theorem tz_1048 : Jvm.Cond.methodLink "ShadowTheatreLaw" (142 : Nat) ({ cls := "ShadowTheatre", name := "lay", desc := "(IIII)I" } : Jvm.MethodName) ∈ qw_tw := qw_in5 15 rfl rfl
theorem tz_1049 : Jvm.Cond.instanceMethod ({ cls := "ShadowTheatre", name := "lay", desc := "(IIII)I" } : Jvm.MethodName) ∈ qw_tw := qw_in5 16 rfl rfl
theorem tz_1050 : Jvm.Cond.selects "ShadowTheatre" ({ cls := "ShadowTheatre", name := "lay", desc := "(IIII)I" } : Jvm.MethodName) ({ cls := "ShadowTheatre", name := "lay", desc := "(IIII)I" } : Jvm.MethodName) ∈ qw_tw := qw_in5 17 rfl rfl
theorem tz_1051 : Jvm.Cond.code ({ cls := "ShadowTheatre", name := "lay", desc := "(IIII)I" } : Jvm.MethodName) prog_1_method_33_code (7 : Nat) (Option.some Jvm.ClassFile.FieldType.int) ∈ qw_tw := qw_in5 18 rfl rfl
theorem tz_1060 : Jvm.Cond.methodLink "ShadowTheatreLaw" (147 : Nat) ({ cls := "ShadowTheatre", name := "get", desc := "(III)I" } : Jvm.MethodName) ∈ qw_tw := qw_in5 27 rfl rfl
theorem tz_1061 : Jvm.Cond.instanceMethod ({ cls := "ShadowTheatre", name := "get", desc := "(III)I" } : Jvm.MethodName) ∈ qw_tw := qw_in5 28 rfl rfl
theorem tz_1062 : Jvm.Cond.selects "ShadowTheatre" ({ cls := "ShadowTheatre", name := "get", desc := "(III)I" } : Jvm.MethodName) ({ cls := "ShadowTheatre", name := "get", desc := "(III)I" } : Jvm.MethodName) ∈ qw_tw := qw_in5 29 rfl rfl
theorem tz_1063 : Jvm.Cond.code ({ cls := "ShadowTheatre", name := "get", desc := "(III)I" } : Jvm.MethodName) prog_1_method_34_code (6 : Nat) (Option.some Jvm.ClassFile.FieldType.int) ∈ qw_tw := qw_in5 30 rfl rfl
theorem tz_1065 : Jvm.Cond.methodLink "ShadowTheatreLaw" (151 : Nat) ({ cls := "ShadowTheatre", name := "copy", desc := "(IIIII)I" } : Jvm.MethodName) ∈ qw_tw := qw_in5 32 rfl rfl
theorem tz_1066 : Jvm.Cond.instanceMethod ({ cls := "ShadowTheatre", name := "copy", desc := "(IIIII)I" } : Jvm.MethodName) ∈ qw_tw := qw_in5 33 rfl rfl
theorem tz_1067 : Jvm.Cond.selects "ShadowTheatre" ({ cls := "ShadowTheatre", name := "copy", desc := "(IIIII)I" } : Jvm.MethodName) ({ cls := "ShadowTheatre", name := "copy", desc := "(IIIII)I" } : Jvm.MethodName) ∈ qw_tw := qw_in5 34 rfl rfl
theorem tz_1068 : Jvm.Cond.code ({ cls := "ShadowTheatre", name := "copy", desc := "(IIIII)I" } : Jvm.MethodName) prog_1_method_35_code (8 : Nat) (Option.some Jvm.ClassFile.FieldType.int) ∈ qw_tw := qw_in5 35 rfl rfl
theorem tz_1076 : Jvm.Cond.methodLink "ShadowTheatreLaw" (156 : Nat) ({ cls := "ShadowTheatre", name := "write", desc := "(II)I" } : Jvm.MethodName) ∈ qw_tw := qw_in5 43 rfl rfl
theorem tz_1077 : Jvm.Cond.instanceMethod ({ cls := "ShadowTheatre", name := "write", desc := "(II)I" } : Jvm.MethodName) ∈ qw_tw := qw_in5 44 rfl rfl
theorem tz_1078 : Jvm.Cond.selects "ShadowTheatre" ({ cls := "ShadowTheatre", name := "write", desc := "(II)I" } : Jvm.MethodName) ({ cls := "ShadowTheatre", name := "write", desc := "(II)I" } : Jvm.MethodName) ∈ qw_tw := qw_in5 45 rfl rfl
theorem tz_1079 : Jvm.Cond.code ({ cls := "ShadowTheatre", name := "write", desc := "(II)I" } : Jvm.MethodName) prog_1_method_36_code (6 : Nat) (Option.some Jvm.ClassFile.FieldType.int) ∈ qw_tw := qw_in5 46 rfl rfl
theorem tz_1081 : Jvm.Cond.methodLink "ShadowTheatreLaw" (160 : Nat) ({ cls := "ShadowTheatre", name := "count", desc := "(I)I" } : Jvm.MethodName) ∈ qw_tw := qw_in5 48 rfl rfl
theorem tz_1086 : Jvm.Cond.methodLink "ShadowTheatreLaw" (164 : Nat) ({ cls := "ShadowTheatre", name := "digest", desc := "()J" } : Jvm.MethodName) ∈ qw_tw := qw_in5 53 rfl rfl
theorem tz_1087 : Jvm.Cond.instanceMethod ({ cls := "ShadowTheatre", name := "digest", desc := "()J" } : Jvm.MethodName) ∈ qw_tw := qw_in5 54 rfl rfl
theorem tz_1088 : Jvm.Cond.selects "ShadowTheatre" ({ cls := "ShadowTheatre", name := "digest", desc := "()J" } : Jvm.MethodName) ({ cls := "ShadowTheatre", name := "digest", desc := "()J" } : Jvm.MethodName) ∈ qw_tw := qw_in5 55 rfl rfl
theorem tz_1089 : Jvm.Cond.code ({ cls := "ShadowTheatre", name := "digest", desc := "()J" } : Jvm.MethodName) prog_1_method_38_code (4 : Nat) (Option.some Jvm.ClassFile.FieldType.long) ∈ qw_tw := qw_in5 56 rfl rfl
theorem tz_1215 : Jvm.Cond.methodLink "ShadowTheatreLaw" (137 : Nat) ({ cls := "ShadowTheatreModel", name := "sheet", desc := "(III)I" } : Jvm.MethodName) ∈ qw_tw := qw_in5 182 rfl rfl
theorem tz_1216 : Jvm.Cond.instanceMethod ({ cls := "ShadowTheatreModel", name := "sheet", desc := "(III)I" } : Jvm.MethodName) ∈ qw_tw := qw_in5 183 rfl rfl
theorem tz_1217 : Jvm.Cond.selects "ShadowTheatreModel" ({ cls := "ShadowTheatreModel", name := "sheet", desc := "(III)I" } : Jvm.MethodName) ({ cls := "ShadowTheatreModel", name := "sheet", desc := "(III)I" } : Jvm.MethodName) ∈ qw_tw := qw_in5 184 rfl rfl
theorem tz_1218 : Jvm.Cond.code ({ cls := "ShadowTheatreModel", name := "sheet", desc := "(III)I" } : Jvm.MethodName) prog_14_method_12_code (5 : Nat) (Option.some Jvm.ClassFile.FieldType.int) ∈ qw_tw := qw_in5 185 rfl rfl
theorem tz_1231 : Jvm.Cond.methodLink "ShadowTheatreLaw" (141 : Nat) ({ cls := "ShadowTheatreModel", name := "lose", desc := "(I)I" } : Jvm.MethodName) ∈ qw_tw := qw_in5 198 rfl rfl
theorem tz_1232 : Jvm.Cond.instanceMethod ({ cls := "ShadowTheatreModel", name := "lose", desc := "(I)I" } : Jvm.MethodName) ∈ qw_tw := qw_in5 199 rfl rfl
theorem tz_1233 : Jvm.Cond.selects "ShadowTheatreModel" ({ cls := "ShadowTheatreModel", name := "lose", desc := "(I)I" } : Jvm.MethodName) ({ cls := "ShadowTheatreModel", name := "lose", desc := "(I)I" } : Jvm.MethodName) ∈ qw_tw := qw_in5 200 rfl rfl
theorem tz_1234 : Jvm.Cond.code ({ cls := "ShadowTheatreModel", name := "lose", desc := "(I)I" } : Jvm.MethodName) prog_14_method_13_code (2 : Nat) (Option.some Jvm.ClassFile.FieldType.int) ∈ qw_tw := qw_in5 201 rfl rfl
theorem tz_1235 : Jvm.Cond.methodLink "ShadowTheatreLaw" (146 : Nat) ({ cls := "ShadowTheatreModel", name := "lay", desc := "(IIII)I" } : Jvm.MethodName) ∈ qw_tw := qw_in5 202 rfl rfl
theorem tz_1236 : Jvm.Cond.instanceMethod ({ cls := "ShadowTheatreModel", name := "lay", desc := "(IIII)I" } : Jvm.MethodName) ∈ qw_tw := qw_in5 203 rfl rfl
theorem tz_1237 : Jvm.Cond.selects "ShadowTheatreModel" ({ cls := "ShadowTheatreModel", name := "lay", desc := "(IIII)I" } : Jvm.MethodName) ({ cls := "ShadowTheatreModel", name := "lay", desc := "(IIII)I" } : Jvm.MethodName) ∈ qw_tw := qw_in5 204 rfl rfl
theorem tz_1238 : Jvm.Cond.code ({ cls := "ShadowTheatreModel", name := "lay", desc := "(IIII)I" } : Jvm.MethodName) prog_14_method_16_code (6 : Nat) (Option.some Jvm.ClassFile.FieldType.int) ∈ qw_tw := qw_in5 205 rfl rfl
theorem tz_1246 : Jvm.Cond.methodLink "ShadowTheatreLaw" (150 : Nat) ({ cls := "ShadowTheatreModel", name := "get", desc := "(III)I" } : Jvm.MethodName) ∈ qw_tw := qw_in5 213 rfl rfl
theorem tz_1247 : Jvm.Cond.instanceMethod ({ cls := "ShadowTheatreModel", name := "get", desc := "(III)I" } : Jvm.MethodName) ∈ qw_tw := qw_in5 214 rfl rfl
theorem tz_1248 : Jvm.Cond.selects "ShadowTheatreModel" ({ cls := "ShadowTheatreModel", name := "get", desc := "(III)I" } : Jvm.MethodName) ({ cls := "ShadowTheatreModel", name := "get", desc := "(III)I" } : Jvm.MethodName) ∈ qw_tw := qw_in5 215 rfl rfl
theorem tz_1249 : Jvm.Cond.code ({ cls := "ShadowTheatreModel", name := "get", desc := "(III)I" } : Jvm.MethodName) prog_14_method_17_code (4 : Nat) (Option.some Jvm.ClassFile.FieldType.int) ∈ qw_tw := qw_in5 216 rfl rfl
theorem tz_1251 : Jvm.Cond.methodLink "ShadowTheatreLaw" (155 : Nat) ({ cls := "ShadowTheatreModel", name := "copy", desc := "(IIIII)I" } : Jvm.MethodName) ∈ qw_tw := qw_in5 218 rfl rfl
theorem tz_1252 : Jvm.Cond.instanceMethod ({ cls := "ShadowTheatreModel", name := "copy", desc := "(IIIII)I" } : Jvm.MethodName) ∈ qw_tw := qw_in5 219 rfl rfl
theorem tz_1253 : Jvm.Cond.selects "ShadowTheatreModel" ({ cls := "ShadowTheatreModel", name := "copy", desc := "(IIIII)I" } : Jvm.MethodName) ({ cls := "ShadowTheatreModel", name := "copy", desc := "(IIIII)I" } : Jvm.MethodName) ∈ qw_tw := qw_in5 220 rfl rfl
theorem tz_1254 : Jvm.Cond.code ({ cls := "ShadowTheatreModel", name := "copy", desc := "(IIIII)I" } : Jvm.MethodName) prog_14_method_18_code (7 : Nat) (Option.some Jvm.ClassFile.FieldType.int) ∈ qw_tw := qw_in5 221 rfl rfl
theorem tz_1255 : Jvm.Cond.methodLink "ShadowTheatreLaw" (17 : Nat) ({ cls := "ShadowTheatreModel", name := "type", desc := "(II)I" } : Jvm.MethodName) ∈ qw_tw := qw_in5 222 rfl rfl
theorem tz_1256 : Jvm.Cond.instanceMethod ({ cls := "ShadowTheatreModel", name := "type", desc := "(II)I" } : Jvm.MethodName) ∈ qw_tw := qw_in5 223 rfl rfl
theorem tz_1257 : Jvm.Cond.selects "ShadowTheatreModel" ({ cls := "ShadowTheatreModel", name := "type", desc := "(II)I" } : Jvm.MethodName) ({ cls := "ShadowTheatreModel", name := "type", desc := "(II)I" } : Jvm.MethodName) ∈ qw_tw := qw_in5 224 rfl rfl
theorem tz_1258 : Jvm.Cond.code ({ cls := "ShadowTheatreModel", name := "type", desc := "(II)I" } : Jvm.MethodName) prog_14_method_20_code (3 : Nat) (Option.some Jvm.ClassFile.FieldType.int) ∈ qw_tw := qw_in5 225 rfl rfl
theorem tz_1263 : Jvm.Cond.methodLink "ShadowTheatreLaw" (22 : Nat) ({ cls := "ShadowTheatreModel", name := "wipe", desc := "(I)I" } : Jvm.MethodName) ∈ qw_tw := qw_in5 230 rfl rfl
theorem tz_1264 : Jvm.Cond.instanceMethod ({ cls := "ShadowTheatreModel", name := "wipe", desc := "(I)I" } : Jvm.MethodName) ∈ qw_tw := qw_in5 231 rfl rfl
theorem tz_1265 : Jvm.Cond.selects "ShadowTheatreModel" ({ cls := "ShadowTheatreModel", name := "wipe", desc := "(I)I" } : Jvm.MethodName) ({ cls := "ShadowTheatreModel", name := "wipe", desc := "(I)I" } : Jvm.MethodName) ∈ qw_tw := qw_in5 232 rfl rfl
theorem tz_1266 : Jvm.Cond.code ({ cls := "ShadowTheatreModel", name := "wipe", desc := "(I)I" } : Jvm.MethodName) prog_14_method_21_code (3 : Nat) (Option.some Jvm.ClassFile.FieldType.int) ∈ qw_tw := qw_in5 233 rfl rfl
theorem tz_1267 : Jvm.Cond.methodLink "ShadowTheatreLaw" (26 : Nat) ({ cls := "ShadowTheatreModel", name := "undo", desc := "(I)I" } : Jvm.MethodName) ∈ qw_tw := qw_in5 234 rfl rfl
theorem tz_1268 : Jvm.Cond.instanceMethod ({ cls := "ShadowTheatreModel", name := "undo", desc := "(I)I" } : Jvm.MethodName) ∈ qw_tw := qw_in5 235 rfl rfl
theorem tz_1269 : Jvm.Cond.selects "ShadowTheatreModel" ({ cls := "ShadowTheatreModel", name := "undo", desc := "(I)I" } : Jvm.MethodName) ({ cls := "ShadowTheatreModel", name := "undo", desc := "(I)I" } : Jvm.MethodName) ∈ qw_tw := qw_in5 236 rfl rfl
theorem tz_1270 : Jvm.Cond.code ({ cls := "ShadowTheatreModel", name := "undo", desc := "(I)I" } : Jvm.MethodName) prog_14_method_22_code (2 : Nat) (Option.some Jvm.ClassFile.FieldType.int) ∈ qw_tw := qw_in5 237 rfl rfl
theorem tz_1271 : Jvm.Cond.methodLink "ShadowTheatreLaw" (30 : Nat) ({ cls := "ShadowTheatreModel", name := "fault", desc := "(I)I" } : Jvm.MethodName) ∈ qw_tw := qw_in5 238 rfl rfl
theorem tz_1272 : Jvm.Cond.instanceMethod ({ cls := "ShadowTheatreModel", name := "fault", desc := "(I)I" } : Jvm.MethodName) ∈ qw_tw := qw_in5 239 rfl rfl
theorem tz_1273 : Jvm.Cond.selects "ShadowTheatreModel" ({ cls := "ShadowTheatreModel", name := "fault", desc := "(I)I" } : Jvm.MethodName) ({ cls := "ShadowTheatreModel", name := "fault", desc := "(I)I" } : Jvm.MethodName) ∈ qw_tw := qw_in6 0 rfl rfl
theorem tz_1274 : Jvm.Cond.code ({ cls := "ShadowTheatreModel", name := "fault", desc := "(I)I" } : Jvm.MethodName) prog_14_method_33_code (2 : Nat) (Option.some Jvm.ClassFile.FieldType.int) ∈ qw_tw := qw_in6 1 rfl rfl
theorem tz_1315 : Jvm.Cond.methodLink "ShadowTheatreLaw" (34 : Nat) ({ cls := "ShadowTheatreModel", name := "figure", desc := "(II)I" } : Jvm.MethodName) ∈ qw_tw := qw_in6 42 rfl rfl
theorem tz_1316 : Jvm.Cond.instanceMethod ({ cls := "ShadowTheatreModel", name := "figure", desc := "(II)I" } : Jvm.MethodName) ∈ qw_tw := qw_in6 43 rfl rfl
theorem tz_1317 : Jvm.Cond.selects "ShadowTheatreModel" ({ cls := "ShadowTheatreModel", name := "figure", desc := "(II)I" } : Jvm.MethodName) ({ cls := "ShadowTheatreModel", name := "figure", desc := "(II)I" } : Jvm.MethodName) ∈ qw_tw := qw_in6 44 rfl rfl
theorem tz_1318 : Jvm.Cond.code ({ cls := "ShadowTheatreModel", name := "figure", desc := "(II)I" } : Jvm.MethodName) prog_14_method_38_code (3 : Nat) (Option.some Jvm.ClassFile.FieldType.int) ∈ qw_tw := qw_in6 45 rfl rfl
theorem tz_1328 : Jvm.Cond.methodLink "ShadowTheatreLaw" (38 : Nat) ({ cls := "ShadowTheatreModel", name := "cue", desc := "(II)I" } : Jvm.MethodName) ∈ qw_tw := qw_in6 55 rfl rfl
theorem tz_1329 : Jvm.Cond.instanceMethod ({ cls := "ShadowTheatreModel", name := "cue", desc := "(II)I" } : Jvm.MethodName) ∈ qw_tw := qw_in6 56 rfl rfl
theorem tz_1330 : Jvm.Cond.selects "ShadowTheatreModel" ({ cls := "ShadowTheatreModel", name := "cue", desc := "(II)I" } : Jvm.MethodName) ({ cls := "ShadowTheatreModel", name := "cue", desc := "(II)I" } : Jvm.MethodName) ∈ qw_tw := qw_in6 57 rfl rfl
theorem tz_1331 : Jvm.Cond.code ({ cls := "ShadowTheatreModel", name := "cue", desc := "(II)I" } : Jvm.MethodName) prog_14_method_40_code (3 : Nat) (Option.some Jvm.ClassFile.FieldType.int) ∈ qw_tw := qw_in6 58 rfl rfl
theorem tz_1343 : Jvm.Cond.methodLink "ShadowTheatreLaw" (42 : Nat) ({ cls := "ShadowTheatreModel", name := "picture", desc := "(I)I" } : Jvm.MethodName) ∈ qw_tw := qw_in6 70 rfl rfl
theorem tz_1344 : Jvm.Cond.instanceMethod ({ cls := "ShadowTheatreModel", name := "picture", desc := "(I)I" } : Jvm.MethodName) ∈ qw_tw := qw_in6 71 rfl rfl
theorem tz_1345 : Jvm.Cond.selects "ShadowTheatreModel" ({ cls := "ShadowTheatreModel", name := "picture", desc := "(I)I" } : Jvm.MethodName) ({ cls := "ShadowTheatreModel", name := "picture", desc := "(I)I" } : Jvm.MethodName) ∈ qw_tw := qw_in6 72 rfl rfl
theorem tz_1346 : Jvm.Cond.code ({ cls := "ShadowTheatreModel", name := "picture", desc := "(I)I" } : Jvm.MethodName) prog_14_method_41_code (2 : Nat) (Option.some Jvm.ClassFile.FieldType.int) ∈ qw_tw := qw_in6 73 rfl rfl
theorem tz_1351 : Jvm.Cond.methodLink "ShadowTheatreLaw" (46 : Nat) ({ cls := "ShadowTheatreModel", name := "lamp", desc := "(I)I" } : Jvm.MethodName) ∈ qw_tw := qw_in6 78 rfl rfl
theorem tz_1352 : Jvm.Cond.instanceMethod ({ cls := "ShadowTheatreModel", name := "lamp", desc := "(I)I" } : Jvm.MethodName) ∈ qw_tw := qw_in6 79 rfl rfl
theorem tz_1353 : Jvm.Cond.selects "ShadowTheatreModel" ({ cls := "ShadowTheatreModel", name := "lamp", desc := "(I)I" } : Jvm.MethodName) ({ cls := "ShadowTheatreModel", name := "lamp", desc := "(I)I" } : Jvm.MethodName) ∈ qw_tw := qw_in6 80 rfl rfl
theorem tz_1354 : Jvm.Cond.code ({ cls := "ShadowTheatreModel", name := "lamp", desc := "(I)I" } : Jvm.MethodName) prog_14_method_42_code (3 : Nat) (Option.some Jvm.ClassFile.FieldType.int) ∈ qw_tw := qw_in6 81 rfl rfl
theorem tz_1355 : Jvm.Cond.methodLink "ShadowTheatreLaw" (50 : Nat) ({ cls := "ShadowTheatreModel", name := "flicker", desc := "(I)I" } : Jvm.MethodName) ∈ qw_tw := qw_in6 82 rfl rfl
theorem tz_1359 : Jvm.Cond.methodLink "ShadowTheatreLaw" (55 : Nat) ({ cls := "ShadowTheatreModel", name := "back", desc := "()I" } : Jvm.MethodName) ∈ qw_tw := qw_in6 86 rfl rfl
theorem tz_1360 : Jvm.Cond.instanceMethod ({ cls := "ShadowTheatreModel", name := "back", desc := "()I" } : Jvm.MethodName) ∈ qw_tw := qw_in6 87 rfl rfl
theorem tz_1361 : Jvm.Cond.selects "ShadowTheatreModel" ({ cls := "ShadowTheatreModel", name := "back", desc := "()I" } : Jvm.MethodName) ({ cls := "ShadowTheatreModel", name := "back", desc := "()I" } : Jvm.MethodName) ∈ qw_tw := qw_in6 88 rfl rfl
theorem tz_1362 : Jvm.Cond.code ({ cls := "ShadowTheatreModel", name := "back", desc := "()I" } : Jvm.MethodName) prog_14_method_44_code (1 : Nat) (Option.some Jvm.ClassFile.FieldType.int) ∈ qw_tw := qw_in6 89 rfl rfl
theorem tz_1363 : Jvm.Cond.methodLink "ShadowTheatreLaw" (59 : Nat) ({ cls := "ShadowTheatreModel", name := "read", desc := "(I)I" } : Jvm.MethodName) ∈ qw_tw := qw_in6 90 rfl rfl
theorem tz_1364 : Jvm.Cond.instanceMethod ({ cls := "ShadowTheatreModel", name := "read", desc := "(I)I" } : Jvm.MethodName) ∈ qw_tw := qw_in6 91 rfl rfl
theorem tz_1365 : Jvm.Cond.selects "ShadowTheatreModel" ({ cls := "ShadowTheatreModel", name := "read", desc := "(I)I" } : Jvm.MethodName) ({ cls := "ShadowTheatreModel", name := "read", desc := "(I)I" } : Jvm.MethodName) ∈ qw_tw := qw_in6 92 rfl rfl
theorem tz_1366 : Jvm.Cond.code ({ cls := "ShadowTheatreModel", name := "read", desc := "(I)I" } : Jvm.MethodName) prog_14_method_45_code (4 : Nat) (Option.some Jvm.ClassFile.FieldType.int) ∈ qw_tw := qw_in6 93 rfl rfl
theorem tz_1368 : Jvm.Cond.methodLink "ShadowTheatreLaw" (63 : Nat) ({ cls := "ShadowTheatreModel", name := "light", desc := "(II)I" } : Jvm.MethodName) ∈ qw_tw := qw_in6 95 rfl rfl
theorem tz_1369 : Jvm.Cond.instanceMethod ({ cls := "ShadowTheatreModel", name := "light", desc := "(II)I" } : Jvm.MethodName) ∈ qw_tw := qw_in6 96 rfl rfl
theorem tz_1370 : Jvm.Cond.selects "ShadowTheatreModel" ({ cls := "ShadowTheatreModel", name := "light", desc := "(II)I" } : Jvm.MethodName) ({ cls := "ShadowTheatreModel", name := "light", desc := "(II)I" } : Jvm.MethodName) ∈ qw_tw := qw_in6 97 rfl rfl
theorem tz_1371 : Jvm.Cond.code ({ cls := "ShadowTheatreModel", name := "light", desc := "(II)I" } : Jvm.MethodName) prog_14_method_54_code (3 : Nat) (Option.some Jvm.ClassFile.FieldType.int) ∈ qw_tw := qw_in6 98 rfl rfl
theorem tz_1409 : Jvm.Cond.methodLink "ShadowTheatreLaw" (67 : Nat) ({ cls := "ShadowTheatreModel", name := "covers", desc := "(II)I" } : Jvm.MethodName) ∈ qw_tw := qw_in6 136 rfl rfl
theorem tz_1410 : Jvm.Cond.instanceMethod ({ cls := "ShadowTheatreModel", name := "covers", desc := "(II)I" } : Jvm.MethodName) ∈ qw_tw := qw_in6 137 rfl rfl
theorem tz_1411 : Jvm.Cond.selects "ShadowTheatreModel" ({ cls := "ShadowTheatreModel", name := "covers", desc := "(II)I" } : Jvm.MethodName) ({ cls := "ShadowTheatreModel", name := "covers", desc := "(II)I" } : Jvm.MethodName) ∈ qw_tw := qw_in6 138 rfl rfl
theorem tz_1412 : Jvm.Cond.code ({ cls := "ShadowTheatreModel", name := "covers", desc := "(II)I" } : Jvm.MethodName) prog_14_method_55_code (3 : Nat) (Option.some Jvm.ClassFile.FieldType.int) ∈ qw_tw := qw_in6 139 rfl rfl
theorem tz_1417 : Jvm.Cond.methodLink "ShadowTheatreLaw" (72 : Nat) ({ cls := "ShadowTheatreModel", name := "at", desc := "(III)I" } : Jvm.MethodName) ∈ qw_tw := qw_in6 144 rfl rfl
theorem tz_1418 : Jvm.Cond.instanceMethod ({ cls := "ShadowTheatreModel", name := "at", desc := "(III)I" } : Jvm.MethodName) ∈ qw_tw := qw_in6 145 rfl rfl
theorem tz_1419 : Jvm.Cond.selects "ShadowTheatreModel" ({ cls := "ShadowTheatreModel", name := "at", desc := "(III)I" } : Jvm.MethodName) ({ cls := "ShadowTheatreModel", name := "at", desc := "(III)I" } : Jvm.MethodName) ∈ qw_tw := qw_in6 146 rfl rfl
theorem tz_1420 : Jvm.Cond.code ({ cls := "ShadowTheatreModel", name := "at", desc := "(III)I" } : Jvm.MethodName) prog_14_method_57_code (4 : Nat) (Option.some Jvm.ClassFile.FieldType.int) ∈ qw_tw := qw_in6 147 rfl rfl
theorem tz_1425 : Jvm.Cond.methodLink "ShadowTheatreLaw" (76 : Nat) ({ cls := "ShadowTheatreModel", name := "screen", desc := "(II)I" } : Jvm.MethodName) ∈ qw_tw := qw_in6 152 rfl rfl
theorem tz_1426 : Jvm.Cond.instanceMethod ({ cls := "ShadowTheatreModel", name := "screen", desc := "(II)I" } : Jvm.MethodName) ∈ qw_tw := qw_in6 153 rfl rfl
theorem tz_1427 : Jvm.Cond.selects "ShadowTheatreModel" ({ cls := "ShadowTheatreModel", name := "screen", desc := "(II)I" } : Jvm.MethodName) ({ cls := "ShadowTheatreModel", name := "screen", desc := "(II)I" } : Jvm.MethodName) ∈ qw_tw := qw_in6 154 rfl rfl
theorem tz_1428 : Jvm.Cond.code ({ cls := "ShadowTheatreModel", name := "screen", desc := "(II)I" } : Jvm.MethodName) prog_14_method_60_code (3 : Nat) (Option.some Jvm.ClassFile.FieldType.int) ∈ qw_tw := qw_in6 155 rfl rfl
theorem tz_1437 : Jvm.Cond.methodLink "ShadowTheatreLaw" (80 : Nat) ({ cls := "ShadowTheatreModel", name := "shown", desc := "(I)I" } : Jvm.MethodName) ∈ qw_tw := qw_in6 164 rfl rfl
theorem tz_1438 : Jvm.Cond.instanceMethod ({ cls := "ShadowTheatreModel", name := "shown", desc := "(I)I" } : Jvm.MethodName) ∈ qw_tw := qw_in6 165 rfl rfl
theorem tz_1439 : Jvm.Cond.selects "ShadowTheatreModel" ({ cls := "ShadowTheatreModel", name := "shown", desc := "(I)I" } : Jvm.MethodName) ({ cls := "ShadowTheatreModel", name := "shown", desc := "(I)I" } : Jvm.MethodName) ∈ qw_tw := qw_in6 166 rfl rfl
theorem tz_1440 : Jvm.Cond.code ({ cls := "ShadowTheatreModel", name := "shown", desc := "(I)I" } : Jvm.MethodName) prog_14_method_64_code (2 : Nat) (Option.some Jvm.ClassFile.FieldType.int) ∈ qw_tw := qw_in6 167 rfl rfl
theorem tz_1453 : Jvm.Cond.methodLink "ShadowTheatreLaw" (84 : Nat) ({ cls := "ShadowTheatreModel", name := "touched", desc := "(I)I" } : Jvm.MethodName) ∈ qw_tw := qw_in6 180 rfl rfl
theorem tz_1454 : Jvm.Cond.instanceMethod ({ cls := "ShadowTheatreModel", name := "touched", desc := "(I)I" } : Jvm.MethodName) ∈ qw_tw := qw_in6 181 rfl rfl
theorem tz_1455 : Jvm.Cond.selects "ShadowTheatreModel" ({ cls := "ShadowTheatreModel", name := "touched", desc := "(I)I" } : Jvm.MethodName) ({ cls := "ShadowTheatreModel", name := "touched", desc := "(I)I" } : Jvm.MethodName) ∈ qw_tw := qw_in6 182 rfl rfl
theorem tz_1456 : Jvm.Cond.code ({ cls := "ShadowTheatreModel", name := "touched", desc := "(I)I" } : Jvm.MethodName) prog_14_method_67_code (2 : Nat) (Option.some Jvm.ClassFile.FieldType.int) ∈ qw_tw := qw_in6 183 rfl rfl
theorem tz_1465 : Jvm.Cond.methodLink "ShadowTheatreLaw" (88 : Nat) ({ cls := "ShadowTheatreModel", name := "darkest", desc := "()I" } : Jvm.MethodName) ∈ qw_tw := qw_in6 192 rfl rfl
theorem tz_1466 : Jvm.Cond.instanceMethod ({ cls := "ShadowTheatreModel", name := "darkest", desc := "()I" } : Jvm.MethodName) ∈ qw_tw := qw_in6 193 rfl rfl
theorem tz_1467 : Jvm.Cond.selects "ShadowTheatreModel" ({ cls := "ShadowTheatreModel", name := "darkest", desc := "()I" } : Jvm.MethodName) ({ cls := "ShadowTheatreModel", name := "darkest", desc := "()I" } : Jvm.MethodName) ∈ qw_tw := qw_in6 194 rfl rfl
theorem tz_1468 : Jvm.Cond.code ({ cls := "ShadowTheatreModel", name := "darkest", desc := "()I" } : Jvm.MethodName) prog_14_method_69_code (1 : Nat) (Option.some Jvm.ClassFile.FieldType.int) ∈ qw_tw := qw_in6 195 rfl rfl
theorem tz_1473 : Jvm.Cond.methodLink "ShadowTheatreLaw" (92 : Nat) ({ cls := "ShadowTheatreModel", name := "hang", desc := "(III)I" } : Jvm.MethodName) ∈ qw_tw := qw_in6 200 rfl rfl
theorem tz_1474 : Jvm.Cond.instanceMethod ({ cls := "ShadowTheatreModel", name := "hang", desc := "(III)I" } : Jvm.MethodName) ∈ qw_tw := qw_in6 201 rfl rfl
theorem tz_1475 : Jvm.Cond.selects "ShadowTheatreModel" ({ cls := "ShadowTheatreModel", name := "hang", desc := "(III)I" } : Jvm.MethodName) ({ cls := "ShadowTheatreModel", name := "hang", desc := "(III)I" } : Jvm.MethodName) ∈ qw_tw := qw_in6 202 rfl rfl
theorem tz_1476 : Jvm.Cond.code ({ cls := "ShadowTheatreModel", name := "hang", desc := "(III)I" } : Jvm.MethodName) prog_14_method_71_code (4 : Nat) (Option.some Jvm.ClassFile.FieldType.int) ∈ qw_tw := qw_in6 203 rfl rfl
theorem tz_1481 : Jvm.Cond.methodLink "ShadowTheatreLaw" (96 : Nat) ({ cls := "ShadowTheatreModel", name := "shift", desc := "(II)I" } : Jvm.MethodName) ∈ qw_tw := qw_in6 208 rfl rfl
theorem tz_1482 : Jvm.Cond.instanceMethod ({ cls := "ShadowTheatreModel", name := "shift", desc := "(II)I" } : Jvm.MethodName) ∈ qw_tw := qw_in6 209 rfl rfl
theorem tz_1483 : Jvm.Cond.selects "ShadowTheatreModel" ({ cls := "ShadowTheatreModel", name := "shift", desc := "(II)I" } : Jvm.MethodName) ({ cls := "ShadowTheatreModel", name := "shift", desc := "(II)I" } : Jvm.MethodName) ∈ qw_tw := qw_in6 210 rfl rfl
theorem tz_1484 : Jvm.Cond.code ({ cls := "ShadowTheatreModel", name := "shift", desc := "(II)I" } : Jvm.MethodName) prog_14_method_73_code (3 : Nat) (Option.some Jvm.ClassFile.FieldType.int) ∈ qw_tw := qw_in6 211 rfl rfl
theorem tz_1489 : Jvm.Cond.methodLink "ShadowTheatreLaw" (100 : Nat) ({ cls := "ShadowTheatreModel", name := "more", desc := "(I)I" } : Jvm.MethodName) ∈ qw_tw := qw_in6 216 rfl rfl
theorem tz_1490 : Jvm.Cond.instanceMethod ({ cls := "ShadowTheatreModel", name := "more", desc := "(I)I" } : Jvm.MethodName) ∈ qw_tw := qw_in6 217 rfl rfl
theorem tz_1491 : Jvm.Cond.selects "ShadowTheatreModel" ({ cls := "ShadowTheatreModel", name := "more", desc := "(I)I" } : Jvm.MethodName) ({ cls := "ShadowTheatreModel", name := "more", desc := "(I)I" } : Jvm.MethodName) ∈ qw_tw := qw_in6 218 rfl rfl
theorem tz_1492 : Jvm.Cond.code ({ cls := "ShadowTheatreModel", name := "more", desc := "(I)I" } : Jvm.MethodName) prog_14_method_76_code (2 : Nat) (Option.some Jvm.ClassFile.FieldType.int) ∈ qw_tw := qw_in6 219 rfl rfl
theorem tz_1502 : Jvm.Cond.methodLink "ShadowTheatreLaw" (104 : Nat) ({ cls := "ShadowTheatreModel", name := "leave", desc := "(II)I" } : Jvm.MethodName) ∈ qw_tw := qw_in6 229 rfl rfl
theorem tz_1503 : Jvm.Cond.instanceMethod ({ cls := "ShadowTheatreModel", name := "leave", desc := "(II)I" } : Jvm.MethodName) ∈ qw_tw := qw_in6 230 rfl rfl
theorem tz_1504 : Jvm.Cond.selects "ShadowTheatreModel" ({ cls := "ShadowTheatreModel", name := "leave", desc := "(II)I" } : Jvm.MethodName) ({ cls := "ShadowTheatreModel", name := "leave", desc := "(II)I" } : Jvm.MethodName) ∈ qw_tw := qw_in6 231 rfl rfl
theorem tz_1505 : Jvm.Cond.code ({ cls := "ShadowTheatreModel", name := "leave", desc := "(II)I" } : Jvm.MethodName) prog_14_method_79_code (3 : Nat) (Option.some Jvm.ClassFile.FieldType.int) ∈ qw_tw := qw_in6 232 rfl rfl
theorem tz_1514 : Jvm.Cond.methodLink "ShadowTheatreLaw" (108 : Nat) ({ cls := "ShadowTheatreModel", name := "seen", desc := "(III)I" } : Jvm.MethodName) ∈ qw_tw := qw_in7 1 rfl rfl
theorem tz_1515 : Jvm.Cond.instanceMethod ({ cls := "ShadowTheatreModel", name := "seen", desc := "(III)I" } : Jvm.MethodName) ∈ qw_tw := qw_in7 2 rfl rfl
theorem tz_1516 : Jvm.Cond.selects "ShadowTheatreModel" ({ cls := "ShadowTheatreModel", name := "seen", desc := "(III)I" } : Jvm.MethodName) ({ cls := "ShadowTheatreModel", name := "seen", desc := "(III)I" } : Jvm.MethodName) ∈ qw_tw := qw_in7 3 rfl rfl
theorem tz_1517 : Jvm.Cond.code ({ cls := "ShadowTheatreModel", name := "seen", desc := "(III)I" } : Jvm.MethodName) prog_14_method_80_code (4 : Nat) (Option.some Jvm.ClassFile.FieldType.int) ∈ qw_tw := qw_in7 4 rfl rfl
theorem tz_1519 : Jvm.Cond.methodLink "ShadowTheatreLaw" (112 : Nat) ({ cls := "ShadowTheatreModel", name := "forget", desc := "()I" } : Jvm.MethodName) ∈ qw_tw := qw_in7 6 rfl rfl
theorem tz_1520 : Jvm.Cond.instanceMethod ({ cls := "ShadowTheatreModel", name := "forget", desc := "()I" } : Jvm.MethodName) ∈ qw_tw := qw_in7 7 rfl rfl
theorem tz_1521 : Jvm.Cond.selects "ShadowTheatreModel" ({ cls := "ShadowTheatreModel", name := "forget", desc := "()I" } : Jvm.MethodName) ({ cls := "ShadowTheatreModel", name := "forget", desc := "()I" } : Jvm.MethodName) ∈ qw_tw := qw_in7 8 rfl rfl
theorem tz_1522 : Jvm.Cond.code ({ cls := "ShadowTheatreModel", name := "forget", desc := "()I" } : Jvm.MethodName) prog_14_method_81_code (2 : Nat) (Option.some Jvm.ClassFile.FieldType.int) ∈ qw_tw := qw_in7 9 rfl rfl
theorem tz_1523 : Jvm.Cond.methodLink "ShadowTheatreLaw" (116 : Nat) ({ cls := "ShadowTheatreModel", name := "never", desc := "()I" } : Jvm.MethodName) ∈ qw_tw := qw_in7 10 rfl rfl
theorem tz_1524 : Jvm.Cond.instanceMethod ({ cls := "ShadowTheatreModel", name := "never", desc := "()I" } : Jvm.MethodName) ∈ qw_tw := qw_in7 11 rfl rfl
theorem tz_1525 : Jvm.Cond.selects "ShadowTheatreModel" ({ cls := "ShadowTheatreModel", name := "never", desc := "()I" } : Jvm.MethodName) ({ cls := "ShadowTheatreModel", name := "never", desc := "()I" } : Jvm.MethodName) ∈ qw_tw := qw_in7 12 rfl rfl
theorem tz_1526 : Jvm.Cond.code ({ cls := "ShadowTheatreModel", name := "never", desc := "()I" } : Jvm.MethodName) prog_14_method_84_code (1 : Nat) (Option.some Jvm.ClassFile.FieldType.int) ∈ qw_tw := qw_in7 13 rfl rfl
theorem tz_1535 : Jvm.Cond.methodLink "ShadowTheatreLaw" (120 : Nat) ({ cls := "ShadowTheatreModel", name := "was", desc := "(II)I" } : Jvm.MethodName) ∈ qw_tw := qw_in7 22 rfl rfl
theorem tz_1536 : Jvm.Cond.instanceMethod ({ cls := "ShadowTheatreModel", name := "was", desc := "(II)I" } : Jvm.MethodName) ∈ qw_tw := qw_in7 23 rfl rfl
theorem tz_1537 : Jvm.Cond.selects "ShadowTheatreModel" ({ cls := "ShadowTheatreModel", name := "was", desc := "(II)I" } : Jvm.MethodName) ({ cls := "ShadowTheatreModel", name := "was", desc := "(II)I" } : Jvm.MethodName) ∈ qw_tw := qw_in7 24 rfl rfl
theorem tz_1538 : Jvm.Cond.code ({ cls := "ShadowTheatreModel", name := "was", desc := "(II)I" } : Jvm.MethodName) prog_14_method_88_code (3 : Nat) (Option.some Jvm.ClassFile.FieldType.int) ∈ qw_tw := qw_in7 25 rfl rfl
theorem tz_1551 : Jvm.Cond.methodLink "ShadowTheatreLaw" (124 : Nat) ({ cls := "ShadowTheatreModel", name := "ask", desc := "(I)I" } : Jvm.MethodName) ∈ qw_tw := qw_in7 38 rfl rfl
theorem tz_1552 : Jvm.Cond.instanceMethod ({ cls := "ShadowTheatreModel", name := "ask", desc := "(I)I" } : Jvm.MethodName) ∈ qw_tw := qw_in7 39 rfl rfl
theorem tz_1553 : Jvm.Cond.selects "ShadowTheatreModel" ({ cls := "ShadowTheatreModel", name := "ask", desc := "(I)I" } : Jvm.MethodName) ({ cls := "ShadowTheatreModel", name := "ask", desc := "(I)I" } : Jvm.MethodName) ∈ qw_tw := qw_in7 40 rfl rfl
theorem tz_1554 : Jvm.Cond.code ({ cls := "ShadowTheatreModel", name := "ask", desc := "(I)I" } : Jvm.MethodName) prog_14_method_90_code (2 : Nat) (Option.some Jvm.ClassFile.FieldType.int) ∈ qw_tw := qw_in7 41 rfl rfl
theorem tz_1559 : Jvm.Cond.methodLink "ShadowTheatreLaw" (129 : Nat) ({ cls := "ShadowTheatreModel", name := "stumble", desc := "(IIII)J" } : Jvm.MethodName) ∈ qw_tw := qw_in7 46 rfl rfl
theorem tz_1560 : Jvm.Cond.instanceMethod ({ cls := "ShadowTheatreModel", name := "stumble", desc := "(IIII)J" } : Jvm.MethodName) ∈ qw_tw := qw_in7 47 rfl rfl
theorem tz_1561 : Jvm.Cond.selects "ShadowTheatreModel" ({ cls := "ShadowTheatreModel", name := "stumble", desc := "(IIII)J" } : Jvm.MethodName) ({ cls := "ShadowTheatreModel", name := "stumble", desc := "(IIII)J" } : Jvm.MethodName) ∈ qw_tw := qw_in7 48 rfl rfl
theorem tz_1562 : Jvm.Cond.code ({ cls := "ShadowTheatreModel", name := "stumble", desc := "(IIII)J" } : Jvm.MethodName) prog_14_method_92_code (5 : Nat) (Option.some Jvm.ClassFile.FieldType.long) ∈ qw_tw := qw_in7 49 rfl rfl
theorem tz_1575 : Jvm.Cond.methodLink "ShadowTheatreLaw" (133 : Nat) ({ cls := "ShadowTheatreModel", name := "play", desc := "(III)I" } : Jvm.MethodName) ∈ qw_tw := qw_in7 62 rfl rfl
theorem tz_1576 : Jvm.Cond.instanceMethod ({ cls := "ShadowTheatreModel", name := "play", desc := "(III)I" } : Jvm.MethodName) ∈ qw_tw := qw_in7 63 rfl rfl
theorem tz_1577 : Jvm.Cond.selects "ShadowTheatreModel" ({ cls := "ShadowTheatreModel", name := "play", desc := "(III)I" } : Jvm.MethodName) ({ cls := "ShadowTheatreModel", name := "play", desc := "(III)I" } : Jvm.MethodName) ∈ qw_tw := qw_in7 64 rfl rfl
theorem tz_1578 : Jvm.Cond.code ({ cls := "ShadowTheatreModel", name := "play", desc := "(III)I" } : Jvm.MethodName) prog_14_method_95_code (4 : Nat) (Option.some Jvm.ClassFile.FieldType.int) ∈ qw_tw := qw_in7 65 rfl rfl
theorem tz_1589 : Jvm.Cond.methodLink "ShadowTheatreLaw" (159 : Nat) ({ cls := "ShadowTheatreModel", name := "write", desc := "(II)I" } : Jvm.MethodName) ∈ qw_tw := qw_in7 76 rfl rfl
theorem tz_1590 : Jvm.Cond.instanceMethod ({ cls := "ShadowTheatreModel", name := "write", desc := "(II)I" } : Jvm.MethodName) ∈ qw_tw := qw_in7 77 rfl rfl
theorem tz_1591 : Jvm.Cond.selects "ShadowTheatreModel" ({ cls := "ShadowTheatreModel", name := "write", desc := "(II)I" } : Jvm.MethodName) ({ cls := "ShadowTheatreModel", name := "write", desc := "(II)I" } : Jvm.MethodName) ∈ qw_tw := qw_in7 78 rfl rfl
theorem tz_1592 : Jvm.Cond.code ({ cls := "ShadowTheatreModel", name := "write", desc := "(II)I" } : Jvm.MethodName) prog_14_method_96_code (5 : Nat) (Option.some Jvm.ClassFile.FieldType.int) ∈ qw_tw := qw_in7 79 rfl rfl
theorem tz_1593 : Jvm.Cond.methodLink "ShadowTheatreLaw" (163 : Nat) ({ cls := "ShadowTheatreModel", name := "count", desc := "(I)I" } : Jvm.MethodName) ∈ qw_tw := qw_in7 80 rfl rfl
theorem tz_1601 : Jvm.Cond.methodLink "ShadowTheatreLaw" (168 : Nat) ({ cls := "ShadowTheatreModel", name := "digest", desc := "()J" } : Jvm.MethodName) ∈ qw_tw := qw_in7 88 rfl rfl
theorem tz_1602 : Jvm.Cond.instanceMethod ({ cls := "ShadowTheatreModel", name := "digest", desc := "()J" } : Jvm.MethodName) ∈ qw_tw := qw_in7 89 rfl rfl
theorem tz_1603 : Jvm.Cond.selects "ShadowTheatreModel" ({ cls := "ShadowTheatreModel", name := "digest", desc := "()J" } : Jvm.MethodName) ({ cls := "ShadowTheatreModel", name := "digest", desc := "()J" } : Jvm.MethodName) ∈ qw_tw := qw_in7 90 rfl rfl
theorem tz_1604 : Jvm.Cond.code ({ cls := "ShadowTheatreModel", name := "digest", desc := "()J" } : Jvm.MethodName) prog_14_method_102_code (4 : Nat) (Option.some Jvm.ClassFile.FieldType.long) ∈ qw_tw := qw_in7 91 rfl rfl
theorem dw_0 : decode code 0 = .ok (.new 7, 3) := by decide +kernel
theorem dw_3 : decode code 3 = .ok (.dup, 1) := by decide +kernel
theorem dw_4 : decode code 4 = .ok (.invokespecial 9, 3) := by decide +kernel
theorem dw_7 : decode code 7 = .ok (.astore_n 1, 1) := by decide +kernel
theorem dw_8 : decode code 8 = .ok (.new 10, 3) := by decide +kernel
theorem dw_11 : decode code 11 = .ok (.dup, 1) := by decide +kernel
theorem dw_12 : decode code 12 = .ok (.invokespecial 12, 3) := by decide +kernel
theorem dw_15 : decode code 15 = .ok (.astore_n 2, 1) := by decide +kernel
theorem dw_16 : decode code 16 = .ok (.iconst 0, 1) := by decide +kernel
theorem dw_17 : decode code 17 = .ok (.istore_n 3, 1) := by decide +kernel
theorem dw_18 : decode code 18 = .ok (.iload_n 3, 1) := by decide +kernel
theorem dw_19 : decode code 19 = .ok (.aload_n 0, 1) := by decide +kernel
theorem dw_20 : decode code 20 = .ok (.arraylength, 1) := by decide +kernel
theorem dw_21 : decode code 21 = .ok (.bipush 6, 2) := by decide +kernel
theorem dw_23 : decode code 23 = .ok (.isub, 1) := by decide +kernel
theorem dw_24 : decode code 24 = .ok (.if_icmp .gt 1301, 3) := by decide +kernel
theorem dw_27 : decode code 27 = .ok (.aload_n 0, 1) := by decide +kernel
theorem dw_28 : decode code 28 = .ok (.iload_n 3, 1) := by decide +kernel
theorem dw_29 : decode code 29 = .ok (.iaload, 1) := by decide +kernel
theorem dw_30 : decode code 30 = .ok (.bipush 63, 2) := by decide +kernel
theorem dw_32 : decode code 32 = .ok (.iand, 1) := by decide +kernel
theorem dw_33 : decode code 33 = .ok (.tableswitch 1286 0 36 #[163, 196, 219, 242, 265, 298, 331, 354, 377, 400, 413, 436, 469, 502, 545, 578, 601, 624, 637, 680, 713, 736, 769, 812, 825, 838, 871, 894, 948, 991, 1034, 1057, 1110, 1153, 1216, 1249, 1272], 163) := by decide +kernel
theorem dw_196 : decode code 196 = .ok (.aload_n 1, 1) := by decide +kernel
theorem dw_197 : decode code 197 = .ok (.aload_n 0, 1) := by decide +kernel
theorem dw_198 : decode code 198 = .ok (.iload_n 3, 1) := by decide +kernel
theorem dw_199 : decode code 199 = .ok (.iconst 1, 1) := by decide +kernel
theorem dw_200 : decode code 200 = .ok (.iadd, 1) := by decide +kernel
theorem dw_201 : decode code 201 = .ok (.iaload, 1) := by decide +kernel
theorem dw_202 : decode code 202 = .ok (.aload_n 0, 1) := by decide +kernel
theorem dw_203 : decode code 203 = .ok (.iload_n 3, 1) := by decide +kernel
theorem dw_204 : decode code 204 = .ok (.iconst 2, 1) := by decide +kernel
theorem dw_205 : decode code 205 = .ok (.iadd, 1) := by decide +kernel
theorem dw_206 : decode code 206 = .ok (.iaload, 1) := by decide +kernel
theorem dw_207 : decode code 207 = .ok (.invokevirtual 13, 3) := by decide +kernel
theorem dw_210 : decode code 210 = .ok (.aload_n 2, 1) := by decide +kernel
theorem dw_211 : decode code 211 = .ok (.aload_n 0, 1) := by decide +kernel
theorem dw_212 : decode code 212 = .ok (.iload_n 3, 1) := by decide +kernel
theorem dw_213 : decode code 213 = .ok (.iconst 1, 1) := by decide +kernel
theorem dw_214 : decode code 214 = .ok (.iadd, 1) := by decide +kernel
theorem dw_215 : decode code 215 = .ok (.iaload, 1) := by decide +kernel
theorem dw_216 : decode code 216 = .ok (.aload_n 0, 1) := by decide +kernel
theorem dw_217 : decode code 217 = .ok (.iload_n 3, 1) := by decide +kernel
theorem dw_218 : decode code 218 = .ok (.iconst 2, 1) := by decide +kernel
theorem dw_219 : decode code 219 = .ok (.iadd, 1) := by decide +kernel
theorem dw_220 : decode code 220 = .ok (.iaload, 1) := by decide +kernel
theorem dw_221 : decode code 221 = .ok (.invokevirtual 17, 3) := by decide +kernel
theorem dw_224 : decode code 224 = .ok (.if_icmp .eq 1095, 3) := by decide +kernel
theorem dw_227 : decode code 227 = .ok (.iconst 0, 1) := by decide +kernel
theorem dw_228 : decode code 228 = .ok (.ireturn, 1) := by decide +kernel
theorem dw_229 : decode code 229 = .ok (.aload_n 1, 1) := by decide +kernel
theorem dw_230 : decode code 230 = .ok (.aload_n 0, 1) := by decide +kernel
theorem dw_231 : decode code 231 = .ok (.iload_n 3, 1) := by decide +kernel
theorem dw_232 : decode code 232 = .ok (.iconst 1, 1) := by decide +kernel
theorem dw_233 : decode code 233 = .ok (.iadd, 1) := by decide +kernel
theorem dw_234 : decode code 234 = .ok (.iaload, 1) := by decide +kernel
theorem dw_235 : decode code 235 = .ok (.invokevirtual 18, 3) := by decide +kernel
theorem dw_238 : decode code 238 = .ok (.aload_n 2, 1) := by decide +kernel
theorem dw_239 : decode code 239 = .ok (.aload_n 0, 1) := by decide +kernel
theorem dw_240 : decode code 240 = .ok (.iload_n 3, 1) := by decide +kernel
theorem dw_241 : decode code 241 = .ok (.iconst 1, 1) := by decide +kernel
theorem dw_242 : decode code 242 = .ok (.iadd, 1) := by decide +kernel
theorem dw_243 : decode code 243 = .ok (.iaload, 1) := by decide +kernel
theorem dw_244 : decode code 244 = .ok (.invokevirtual 22, 3) := by decide +kernel
theorem dw_247 : decode code 247 = .ok (.if_icmp .eq 1072, 3) := by decide +kernel
theorem dw_250 : decode code 250 = .ok (.iconst 0, 1) := by decide +kernel
theorem dw_251 : decode code 251 = .ok (.ireturn, 1) := by decide +kernel
theorem dw_252 : decode code 252 = .ok (.aload_n 1, 1) := by decide +kernel
theorem dw_253 : decode code 253 = .ok (.aload_n 0, 1) := by decide +kernel
theorem dw_254 : decode code 254 = .ok (.iload_n 3, 1) := by decide +kernel
theorem dw_255 : decode code 255 = .ok (.iconst 1, 1) := by decide +kernel
theorem dw_256 : decode code 256 = .ok (.iadd, 1) := by decide +kernel
theorem dw_257 : decode code 257 = .ok (.iaload, 1) := by decide +kernel
theorem dw_258 : decode code 258 = .ok (.invokevirtual 23, 3) := by decide +kernel
theorem dw_261 : decode code 261 = .ok (.aload_n 2, 1) := by decide +kernel
theorem dw_262 : decode code 262 = .ok (.aload_n 0, 1) := by decide +kernel
theorem dw_263 : decode code 263 = .ok (.iload_n 3, 1) := by decide +kernel
theorem dw_264 : decode code 264 = .ok (.iconst 1, 1) := by decide +kernel
theorem dw_265 : decode code 265 = .ok (.iadd, 1) := by decide +kernel
theorem dw_266 : decode code 266 = .ok (.iaload, 1) := by decide +kernel
theorem dw_267 : decode code 267 = .ok (.invokevirtual 26, 3) := by decide +kernel
theorem dw_270 : decode code 270 = .ok (.if_icmp .eq 1049, 3) := by decide +kernel
theorem dw_273 : decode code 273 = .ok (.iconst 0, 1) := by decide +kernel
theorem dw_274 : decode code 274 = .ok (.ireturn, 1) := by decide +kernel
theorem dw_275 : decode code 275 = .ok (.aload_n 1, 1) := by decide +kernel
theorem dw_276 : decode code 276 = .ok (.aload_n 0, 1) := by decide +kernel
theorem dw_277 : decode code 277 = .ok (.iload_n 3, 1) := by decide +kernel
theorem dw_278 : decode code 278 = .ok (.iconst 1, 1) := by decide +kernel
theorem dw_279 : decode code 279 = .ok (.iadd, 1) := by decide +kernel
theorem dw_280 : decode code 280 = .ok (.iaload, 1) := by decide +kernel
theorem dw_281 : decode code 281 = .ok (.invokevirtual 27, 3) := by decide +kernel
theorem dw_284 : decode code 284 = .ok (.aload_n 2, 1) := by decide +kernel
theorem dw_285 : decode code 285 = .ok (.aload_n 0, 1) := by decide +kernel
theorem dw_286 : decode code 286 = .ok (.iload_n 3, 1) := by decide +kernel
theorem dw_287 : decode code 287 = .ok (.iconst 1, 1) := by decide +kernel
theorem dw_288 : decode code 288 = .ok (.iadd, 1) := by decide +kernel
theorem dw_289 : decode code 289 = .ok (.iaload, 1) := by decide +kernel
theorem dw_290 : decode code 290 = .ok (.invokevirtual 30, 3) := by decide +kernel
theorem dw_293 : decode code 293 = .ok (.if_icmp .eq 1026, 3) := by decide +kernel
theorem dw_296 : decode code 296 = .ok (.iconst 0, 1) := by decide +kernel
theorem dw_297 : decode code 297 = .ok (.ireturn, 1) := by decide +kernel
theorem dw_298 : decode code 298 = .ok (.aload_n 1, 1) := by decide +kernel
theorem dw_299 : decode code 299 = .ok (.aload_n 0, 1) := by decide +kernel
theorem dw_300 : decode code 300 = .ok (.iload_n 3, 1) := by decide +kernel
theorem dw_301 : decode code 301 = .ok (.iconst 1, 1) := by decide +kernel
theorem dw_302 : decode code 302 = .ok (.iadd, 1) := by decide +kernel
theorem dw_303 : decode code 303 = .ok (.iaload, 1) := by decide +kernel
theorem dw_304 : decode code 304 = .ok (.aload_n 0, 1) := by decide +kernel
theorem dw_305 : decode code 305 = .ok (.iload_n 3, 1) := by decide +kernel
theorem dw_306 : decode code 306 = .ok (.iconst 2, 1) := by decide +kernel
theorem dw_307 : decode code 307 = .ok (.iadd, 1) := by decide +kernel
theorem dw_308 : decode code 308 = .ok (.iaload, 1) := by decide +kernel
theorem dw_309 : decode code 309 = .ok (.invokevirtual 31, 3) := by decide +kernel
theorem dw_312 : decode code 312 = .ok (.aload_n 2, 1) := by decide +kernel
theorem dw_313 : decode code 313 = .ok (.aload_n 0, 1) := by decide +kernel
theorem dw_314 : decode code 314 = .ok (.iload_n 3, 1) := by decide +kernel
theorem dw_315 : decode code 315 = .ok (.iconst 1, 1) := by decide +kernel
theorem dw_316 : decode code 316 = .ok (.iadd, 1) := by decide +kernel
theorem dw_317 : decode code 317 = .ok (.iaload, 1) := by decide +kernel
theorem dw_318 : decode code 318 = .ok (.aload_n 0, 1) := by decide +kernel
theorem dw_319 : decode code 319 = .ok (.iload_n 3, 1) := by decide +kernel
theorem dw_320 : decode code 320 = .ok (.iconst 2, 1) := by decide +kernel
theorem dw_321 : decode code 321 = .ok (.iadd, 1) := by decide +kernel
theorem dw_322 : decode code 322 = .ok (.iaload, 1) := by decide +kernel
theorem dw_323 : decode code 323 = .ok (.invokevirtual 34, 3) := by decide +kernel
theorem dw_326 : decode code 326 = .ok (.if_icmp .eq 993, 3) := by decide +kernel
theorem dw_329 : decode code 329 = .ok (.iconst 0, 1) := by decide +kernel
theorem dw_330 : decode code 330 = .ok (.ireturn, 1) := by decide +kernel
theorem dw_331 : decode code 331 = .ok (.aload_n 1, 1) := by decide +kernel
theorem dw_332 : decode code 332 = .ok (.aload_n 0, 1) := by decide +kernel
theorem dw_333 : decode code 333 = .ok (.iload_n 3, 1) := by decide +kernel
theorem dw_334 : decode code 334 = .ok (.iconst 1, 1) := by decide +kernel
theorem dw_335 : decode code 335 = .ok (.iadd, 1) := by decide +kernel
theorem dw_336 : decode code 336 = .ok (.iaload, 1) := by decide +kernel
theorem dw_337 : decode code 337 = .ok (.aload_n 0, 1) := by decide +kernel
theorem dw_338 : decode code 338 = .ok (.iload_n 3, 1) := by decide +kernel
theorem dw_339 : decode code 339 = .ok (.iconst 2, 1) := by decide +kernel
theorem dw_340 : decode code 340 = .ok (.iadd, 1) := by decide +kernel
theorem dw_341 : decode code 341 = .ok (.iaload, 1) := by decide +kernel
theorem dw_342 : decode code 342 = .ok (.invokevirtual 35, 3) := by decide +kernel
theorem dw_345 : decode code 345 = .ok (.aload_n 2, 1) := by decide +kernel
theorem dw_346 : decode code 346 = .ok (.aload_n 0, 1) := by decide +kernel
theorem dw_347 : decode code 347 = .ok (.iload_n 3, 1) := by decide +kernel
theorem dw_348 : decode code 348 = .ok (.iconst 1, 1) := by decide +kernel
theorem dw_349 : decode code 349 = .ok (.iadd, 1) := by decide +kernel
theorem dw_350 : decode code 350 = .ok (.iaload, 1) := by decide +kernel
theorem dw_351 : decode code 351 = .ok (.aload_n 0, 1) := by decide +kernel
theorem dw_352 : decode code 352 = .ok (.iload_n 3, 1) := by decide +kernel
theorem dw_353 : decode code 353 = .ok (.iconst 2, 1) := by decide +kernel
theorem dw_354 : decode code 354 = .ok (.iadd, 1) := by decide +kernel
theorem dw_355 : decode code 355 = .ok (.iaload, 1) := by decide +kernel
theorem dw_356 : decode code 356 = .ok (.invokevirtual 38, 3) := by decide +kernel
theorem dw_359 : decode code 359 = .ok (.if_icmp .eq 960, 3) := by decide +kernel
theorem dw_362 : decode code 362 = .ok (.iconst 0, 1) := by decide +kernel
theorem dw_363 : decode code 363 = .ok (.ireturn, 1) := by decide +kernel
theorem dw_364 : decode code 364 = .ok (.aload_n 1, 1) := by decide +kernel
theorem dw_365 : decode code 365 = .ok (.aload_n 0, 1) := by decide +kernel
theorem dw_366 : decode code 366 = .ok (.iload_n 3, 1) := by decide +kernel
theorem dw_367 : decode code 367 = .ok (.iconst 1, 1) := by decide +kernel
theorem dw_368 : decode code 368 = .ok (.iadd, 1) := by decide +kernel
theorem dw_369 : decode code 369 = .ok (.iaload, 1) := by decide +kernel
theorem dw_370 : decode code 370 = .ok (.invokevirtual 39, 3) := by decide +kernel
theorem dw_373 : decode code 373 = .ok (.aload_n 2, 1) := by decide +kernel
theorem dw_374 : decode code 374 = .ok (.aload_n 0, 1) := by decide +kernel
theorem dw_375 : decode code 375 = .ok (.iload_n 3, 1) := by decide +kernel
theorem dw_376 : decode code 376 = .ok (.iconst 1, 1) := by decide +kernel
theorem dw_377 : decode code 377 = .ok (.iadd, 1) := by decide +kernel
theorem dw_378 : decode code 378 = .ok (.iaload, 1) := by decide +kernel
theorem dw_379 : decode code 379 = .ok (.invokevirtual 42, 3) := by decide +kernel
theorem dw_382 : decode code 382 = .ok (.if_icmp .eq 937, 3) := by decide +kernel
theorem dw_385 : decode code 385 = .ok (.iconst 0, 1) := by decide +kernel
theorem dw_386 : decode code 386 = .ok (.ireturn, 1) := by decide +kernel
theorem dw_387 : decode code 387 = .ok (.aload_n 1, 1) := by decide +kernel
theorem dw_388 : decode code 388 = .ok (.aload_n 0, 1) := by decide +kernel
theorem dw_389 : decode code 389 = .ok (.iload_n 3, 1) := by decide +kernel
theorem dw_390 : decode code 390 = .ok (.iconst 1, 1) := by decide +kernel
theorem dw_391 : decode code 391 = .ok (.iadd, 1) := by decide +kernel
theorem dw_392 : decode code 392 = .ok (.iaload, 1) := by decide +kernel
theorem dw_393 : decode code 393 = .ok (.invokevirtual 43, 3) := by decide +kernel
theorem dw_396 : decode code 396 = .ok (.aload_n 2, 1) := by decide +kernel
theorem dw_397 : decode code 397 = .ok (.aload_n 0, 1) := by decide +kernel
theorem dw_398 : decode code 398 = .ok (.iload_n 3, 1) := by decide +kernel
theorem dw_399 : decode code 399 = .ok (.iconst 1, 1) := by decide +kernel
theorem dw_400 : decode code 400 = .ok (.iadd, 1) := by decide +kernel
theorem dw_401 : decode code 401 = .ok (.iaload, 1) := by decide +kernel
theorem dw_402 : decode code 402 = .ok (.invokevirtual 46, 3) := by decide +kernel
theorem dw_405 : decode code 405 = .ok (.if_icmp .eq 914, 3) := by decide +kernel
theorem dw_408 : decode code 408 = .ok (.iconst 0, 1) := by decide +kernel
theorem dw_409 : decode code 409 = .ok (.ireturn, 1) := by decide +kernel
theorem dw_410 : decode code 410 = .ok (.aload_n 1, 1) := by decide +kernel
theorem dw_411 : decode code 411 = .ok (.aload_n 0, 1) := by decide +kernel
theorem dw_412 : decode code 412 = .ok (.iload_n 3, 1) := by decide +kernel
theorem dw_413 : decode code 413 = .ok (.iconst 1, 1) := by decide +kernel
theorem dw_414 : decode code 414 = .ok (.iadd, 1) := by decide +kernel
theorem dw_415 : decode code 415 = .ok (.iaload, 1) := by decide +kernel
theorem dw_416 : decode code 416 = .ok (.invokevirtual 47, 3) := by decide +kernel
theorem dw_419 : decode code 419 = .ok (.aload_n 2, 1) := by decide +kernel
theorem dw_420 : decode code 420 = .ok (.aload_n 0, 1) := by decide +kernel
theorem dw_421 : decode code 421 = .ok (.iload_n 3, 1) := by decide +kernel
theorem dw_422 : decode code 422 = .ok (.iconst 1, 1) := by decide +kernel
theorem dw_423 : decode code 423 = .ok (.iadd, 1) := by decide +kernel
theorem dw_424 : decode code 424 = .ok (.iaload, 1) := by decide +kernel
theorem dw_425 : decode code 425 = .ok (.invokevirtual 50, 3) := by decide +kernel
theorem dw_428 : decode code 428 = .ok (.if_icmp .eq 891, 3) := by decide +kernel
theorem dw_431 : decode code 431 = .ok (.iconst 0, 1) := by decide +kernel
theorem dw_432 : decode code 432 = .ok (.ireturn, 1) := by decide +kernel
theorem dw_433 : decode code 433 = .ok (.aload_n 1, 1) := by decide +kernel
theorem dw_434 : decode code 434 = .ok (.invokevirtual 51, 3) := by decide +kernel
theorem dw_437 : decode code 437 = .ok (.aload_n 2, 1) := by decide +kernel
theorem dw_438 : decode code 438 = .ok (.invokevirtual 55, 3) := by decide +kernel
theorem dw_441 : decode code 441 = .ok (.if_icmp .eq 878, 3) := by decide +kernel
theorem dw_444 : decode code 444 = .ok (.iconst 0, 1) := by decide +kernel
theorem dw_445 : decode code 445 = .ok (.ireturn, 1) := by decide +kernel
theorem dw_446 : decode code 446 = .ok (.aload_n 1, 1) := by decide +kernel
theorem dw_447 : decode code 447 = .ok (.aload_n 0, 1) := by decide +kernel
theorem dw_448 : decode code 448 = .ok (.iload_n 3, 1) := by decide +kernel
theorem dw_449 : decode code 449 = .ok (.iconst 1, 1) := by decide +kernel
theorem dw_450 : decode code 450 = .ok (.iadd, 1) := by decide +kernel
theorem dw_451 : decode code 451 = .ok (.iaload, 1) := by decide +kernel
theorem dw_452 : decode code 452 = .ok (.invokevirtual 56, 3) := by decide +kernel
theorem dw_455 : decode code 455 = .ok (.aload_n 2, 1) := by decide +kernel
theorem dw_456 : decode code 456 = .ok (.aload_n 0, 1) := by decide +kernel
theorem dw_457 : decode code 457 = .ok (.iload_n 3, 1) := by decide +kernel
theorem dw_458 : decode code 458 = .ok (.iconst 1, 1) := by decide +kernel
theorem dw_459 : decode code 459 = .ok (.iadd, 1) := by decide +kernel
theorem dw_460 : decode code 460 = .ok (.iaload, 1) := by decide +kernel
theorem dw_461 : decode code 461 = .ok (.invokevirtual 59, 3) := by decide +kernel
theorem dw_464 : decode code 464 = .ok (.if_icmp .eq 855, 3) := by decide +kernel
theorem dw_467 : decode code 467 = .ok (.iconst 0, 1) := by decide +kernel
theorem dw_468 : decode code 468 = .ok (.ireturn, 1) := by decide +kernel
theorem dw_469 : decode code 469 = .ok (.aload_n 1, 1) := by decide +kernel
theorem dw_470 : decode code 470 = .ok (.aload_n 0, 1) := by decide +kernel
theorem dw_471 : decode code 471 = .ok (.iload_n 3, 1) := by decide +kernel
theorem dw_472 : decode code 472 = .ok (.iconst 1, 1) := by decide +kernel
theorem dw_473 : decode code 473 = .ok (.iadd, 1) := by decide +kernel
theorem dw_474 : decode code 474 = .ok (.iaload, 1) := by decide +kernel
theorem dw_475 : decode code 475 = .ok (.aload_n 0, 1) := by decide +kernel
theorem dw_476 : decode code 476 = .ok (.iload_n 3, 1) := by decide +kernel
theorem dw_477 : decode code 477 = .ok (.iconst 2, 1) := by decide +kernel
theorem dw_478 : decode code 478 = .ok (.iadd, 1) := by decide +kernel
theorem dw_479 : decode code 479 = .ok (.iaload, 1) := by decide +kernel
theorem dw_480 : decode code 480 = .ok (.invokevirtual 60, 3) := by decide +kernel
theorem dw_483 : decode code 483 = .ok (.aload_n 2, 1) := by decide +kernel
theorem dw_484 : decode code 484 = .ok (.aload_n 0, 1) := by decide +kernel
theorem dw_485 : decode code 485 = .ok (.iload_n 3, 1) := by decide +kernel
theorem dw_486 : decode code 486 = .ok (.iconst 1, 1) := by decide +kernel
theorem dw_487 : decode code 487 = .ok (.iadd, 1) := by decide +kernel
theorem dw_488 : decode code 488 = .ok (.iaload, 1) := by decide +kernel
theorem dw_489 : decode code 489 = .ok (.aload_n 0, 1) := by decide +kernel
theorem dw_490 : decode code 490 = .ok (.iload_n 3, 1) := by decide +kernel
theorem dw_491 : decode code 491 = .ok (.iconst 2, 1) := by decide +kernel
theorem dw_492 : decode code 492 = .ok (.iadd, 1) := by decide +kernel
theorem dw_493 : decode code 493 = .ok (.iaload, 1) := by decide +kernel
theorem dw_494 : decode code 494 = .ok (.invokevirtual 63, 3) := by decide +kernel
theorem dw_497 : decode code 497 = .ok (.if_icmp .eq 822, 3) := by decide +kernel
theorem dw_500 : decode code 500 = .ok (.iconst 0, 1) := by decide +kernel
theorem dw_501 : decode code 501 = .ok (.ireturn, 1) := by decide +kernel
theorem dw_502 : decode code 502 = .ok (.aload_n 1, 1) := by decide +kernel
theorem dw_503 : decode code 503 = .ok (.aload_n 0, 1) := by decide +kernel
theorem dw_504 : decode code 504 = .ok (.iload_n 3, 1) := by decide +kernel
theorem dw_505 : decode code 505 = .ok (.iconst 1, 1) := by decide +kernel
theorem dw_506 : decode code 506 = .ok (.iadd, 1) := by decide +kernel
theorem dw_507 : decode code 507 = .ok (.iaload, 1) := by decide +kernel
theorem dw_508 : decode code 508 = .ok (.aload_n 0, 1) := by decide +kernel
theorem dw_509 : decode code 509 = .ok (.iload_n 3, 1) := by decide +kernel
theorem dw_510 : decode code 510 = .ok (.iconst 2, 1) := by decide +kernel
theorem dw_511 : decode code 511 = .ok (.iadd, 1) := by decide +kernel
theorem dw_512 : decode code 512 = .ok (.iaload, 1) := by decide +kernel
theorem dw_513 : decode code 513 = .ok (.invokevirtual 64, 3) := by decide +kernel
theorem dw_516 : decode code 516 = .ok (.aload_n 2, 1) := by decide +kernel
theorem dw_517 : decode code 517 = .ok (.aload_n 0, 1) := by decide +kernel
theorem dw_518 : decode code 518 = .ok (.iload_n 3, 1) := by decide +kernel
theorem dw_519 : decode code 519 = .ok (.iconst 1, 1) := by decide +kernel
theorem dw_520 : decode code 520 = .ok (.iadd, 1) := by decide +kernel
theorem dw_521 : decode code 521 = .ok (.iaload, 1) := by decide +kernel
theorem dw_522 : decode code 522 = .ok (.aload_n 0, 1) := by decide +kernel
theorem dw_523 : decode code 523 = .ok (.iload_n 3, 1) := by decide +kernel
theorem dw_524 : decode code 524 = .ok (.iconst 2, 1) := by decide +kernel
theorem dw_525 : decode code 525 = .ok (.iadd, 1) := by decide +kernel
theorem dw_526 : decode code 526 = .ok (.iaload, 1) := by decide +kernel
theorem dw_527 : decode code 527 = .ok (.invokevirtual 67, 3) := by decide +kernel
theorem dw_530 : decode code 530 = .ok (.if_icmp .eq 789, 3) := by decide +kernel
theorem dw_533 : decode code 533 = .ok (.iconst 0, 1) := by decide +kernel
theorem dw_534 : decode code 534 = .ok (.ireturn, 1) := by decide +kernel
theorem dw_535 : decode code 535 = .ok (.aload_n 1, 1) := by decide +kernel
theorem dw_536 : decode code 536 = .ok (.aload_n 0, 1) := by decide +kernel
theorem dw_537 : decode code 537 = .ok (.iload_n 3, 1) := by decide +kernel
theorem dw_538 : decode code 538 = .ok (.iconst 1, 1) := by decide +kernel
theorem dw_539 : decode code 539 = .ok (.iadd, 1) := by decide +kernel
theorem dw_540 : decode code 540 = .ok (.iaload, 1) := by decide +kernel
theorem dw_541 : decode code 541 = .ok (.aload_n 0, 1) := by decide +kernel
theorem dw_542 : decode code 542 = .ok (.iload_n 3, 1) := by decide +kernel
theorem dw_543 : decode code 543 = .ok (.iconst 2, 1) := by decide +kernel
theorem dw_544 : decode code 544 = .ok (.iadd, 1) := by decide +kernel
theorem dw_545 : decode code 545 = .ok (.iaload, 1) := by decide +kernel
theorem dw_546 : decode code 546 = .ok (.aload_n 0, 1) := by decide +kernel
theorem dw_547 : decode code 547 = .ok (.iload_n 3, 1) := by decide +kernel
theorem dw_548 : decode code 548 = .ok (.iconst 3, 1) := by decide +kernel
theorem dw_549 : decode code 549 = .ok (.iadd, 1) := by decide +kernel
theorem dw_550 : decode code 550 = .ok (.iaload, 1) := by decide +kernel
theorem dw_551 : decode code 551 = .ok (.invokevirtual 68, 3) := by decide +kernel
theorem dw_554 : decode code 554 = .ok (.aload_n 2, 1) := by decide +kernel
theorem dw_555 : decode code 555 = .ok (.aload_n 0, 1) := by decide +kernel
theorem dw_556 : decode code 556 = .ok (.iload_n 3, 1) := by decide +kernel
theorem dw_557 : decode code 557 = .ok (.iconst 1, 1) := by decide +kernel
theorem dw_558 : decode code 558 = .ok (.iadd, 1) := by decide +kernel
theorem dw_559 : decode code 559 = .ok (.iaload, 1) := by decide +kernel
theorem dw_560 : decode code 560 = .ok (.aload_n 0, 1) := by decide +kernel
theorem dw_561 : decode code 561 = .ok (.iload_n 3, 1) := by decide +kernel
theorem dw_562 : decode code 562 = .ok (.iconst 2, 1) := by decide +kernel
theorem dw_563 : decode code 563 = .ok (.iadd, 1) := by decide +kernel
theorem dw_564 : decode code 564 = .ok (.iaload, 1) := by decide +kernel
theorem dw_565 : decode code 565 = .ok (.aload_n 0, 1) := by decide +kernel
theorem dw_566 : decode code 566 = .ok (.iload_n 3, 1) := by decide +kernel
theorem dw_567 : decode code 567 = .ok (.iconst 3, 1) := by decide +kernel
theorem dw_568 : decode code 568 = .ok (.iadd, 1) := by decide +kernel
theorem dw_569 : decode code 569 = .ok (.iaload, 1) := by decide +kernel
theorem dw_570 : decode code 570 = .ok (.invokevirtual 72, 3) := by decide +kernel
theorem dw_573 : decode code 573 = .ok (.if_icmp .eq 746, 3) := by decide +kernel
theorem dw_576 : decode code 576 = .ok (.iconst 0, 1) := by decide +kernel
theorem dw_577 : decode code 577 = .ok (.ireturn, 1) := by decide +kernel
theorem dw_578 : decode code 578 = .ok (.aload_n 1, 1) := by decide +kernel
theorem dw_579 : decode code 579 = .ok (.aload_n 0, 1) := by decide +kernel
theorem dw_580 : decode code 580 = .ok (.iload_n 3, 1) := by decide +kernel
theorem dw_581 : decode code 581 = .ok (.iconst 1, 1) := by decide +kernel
theorem dw_582 : decode code 582 = .ok (.iadd, 1) := by decide +kernel
theorem dw_583 : decode code 583 = .ok (.iaload, 1) := by decide +kernel
theorem dw_584 : decode code 584 = .ok (.aload_n 0, 1) := by decide +kernel
theorem dw_585 : decode code 585 = .ok (.iload_n 3, 1) := by decide +kernel
theorem dw_586 : decode code 586 = .ok (.iconst 2, 1) := by decide +kernel
theorem dw_587 : decode code 587 = .ok (.iadd, 1) := by decide +kernel
theorem dw_588 : decode code 588 = .ok (.iaload, 1) := by decide +kernel
theorem dw_589 : decode code 589 = .ok (.invokevirtual 73, 3) := by decide +kernel
theorem dw_592 : decode code 592 = .ok (.aload_n 2, 1) := by decide +kernel
theorem dw_593 : decode code 593 = .ok (.aload_n 0, 1) := by decide +kernel
theorem dw_594 : decode code 594 = .ok (.iload_n 3, 1) := by decide +kernel
theorem dw_595 : decode code 595 = .ok (.iconst 1, 1) := by decide +kernel
theorem dw_596 : decode code 596 = .ok (.iadd, 1) := by decide +kernel
theorem dw_597 : decode code 597 = .ok (.iaload, 1) := by decide +kernel
theorem dw_598 : decode code 598 = .ok (.aload_n 0, 1) := by decide +kernel
theorem dw_599 : decode code 599 = .ok (.iload_n 3, 1) := by decide +kernel
theorem dw_600 : decode code 600 = .ok (.iconst 2, 1) := by decide +kernel
theorem dw_601 : decode code 601 = .ok (.iadd, 1) := by decide +kernel
theorem dw_602 : decode code 602 = .ok (.iaload, 1) := by decide +kernel
theorem dw_603 : decode code 603 = .ok (.invokevirtual 76, 3) := by decide +kernel
theorem dw_606 : decode code 606 = .ok (.if_icmp .eq 713, 3) := by decide +kernel
theorem dw_609 : decode code 609 = .ok (.iconst 0, 1) := by decide +kernel
theorem dw_610 : decode code 610 = .ok (.ireturn, 1) := by decide +kernel
theorem dw_611 : decode code 611 = .ok (.aload_n 1, 1) := by decide +kernel
theorem dw_612 : decode code 612 = .ok (.aload_n 0, 1) := by decide +kernel
theorem dw_613 : decode code 613 = .ok (.iload_n 3, 1) := by decide +kernel
theorem dw_614 : decode code 614 = .ok (.iconst 1, 1) := by decide +kernel
theorem dw_615 : decode code 615 = .ok (.iadd, 1) := by decide +kernel
theorem dw_616 : decode code 616 = .ok (.iaload, 1) := by decide +kernel
theorem dw_617 : decode code 617 = .ok (.invokevirtual 77, 3) := by decide +kernel
theorem dw_620 : decode code 620 = .ok (.aload_n 2, 1) := by decide +kernel
theorem dw_621 : decode code 621 = .ok (.aload_n 0, 1) := by decide +kernel
theorem dw_622 : decode code 622 = .ok (.iload_n 3, 1) := by decide +kernel
theorem dw_623 : decode code 623 = .ok (.iconst 1, 1) := by decide +kernel
theorem dw_624 : decode code 624 = .ok (.iadd, 1) := by decide +kernel
theorem dw_625 : decode code 625 = .ok (.iaload, 1) := by decide +kernel
theorem dw_626 : decode code 626 = .ok (.invokevirtual 80, 3) := by decide +kernel
theorem dw_629 : decode code 629 = .ok (.if_icmp .eq 690, 3) := by decide +kernel
theorem dw_632 : decode code 632 = .ok (.iconst 0, 1) := by decide +kernel
theorem dw_633 : decode code 633 = .ok (.ireturn, 1) := by decide +kernel
theorem dw_634 : decode code 634 = .ok (.aload_n 1, 1) := by decide +kernel
theorem dw_635 : decode code 635 = .ok (.aload_n 0, 1) := by decide +kernel
theorem dw_636 : decode code 636 = .ok (.iload_n 3, 1) := by decide +kernel
theorem dw_637 : decode code 637 = .ok (.iconst 1, 1) := by decide +kernel
theorem dw_638 : decode code 638 = .ok (.iadd, 1) := by decide +kernel
theorem dw_639 : decode code 639 = .ok (.iaload, 1) := by decide +kernel
theorem dw_640 : decode code 640 = .ok (.invokevirtual 81, 3) := by decide +kernel
theorem dw_643 : decode code 643 = .ok (.aload_n 2, 1) := by decide +kernel
theorem dw_644 : decode code 644 = .ok (.aload_n 0, 1) := by decide +kernel
theorem dw_645 : decode code 645 = .ok (.iload_n 3, 1) := by decide +kernel
theorem dw_646 : decode code 646 = .ok (.iconst 1, 1) := by decide +kernel
theorem dw_647 : decode code 647 = .ok (.iadd, 1) := by decide +kernel
theorem dw_648 : decode code 648 = .ok (.iaload, 1) := by decide +kernel
theorem dw_649 : decode code 649 = .ok (.invokevirtual 84, 3) := by decide +kernel
theorem dw_652 : decode code 652 = .ok (.if_icmp .eq 667, 3) := by decide +kernel
theorem dw_655 : decode code 655 = .ok (.iconst 0, 1) := by decide +kernel
theorem dw_656 : decode code 656 = .ok (.ireturn, 1) := by decide +kernel
theorem dw_657 : decode code 657 = .ok (.aload_n 1, 1) := by decide +kernel
theorem dw_658 : decode code 658 = .ok (.invokevirtual 85, 3) := by decide +kernel
theorem dw_661 : decode code 661 = .ok (.aload_n 2, 1) := by decide +kernel
theorem dw_662 : decode code 662 = .ok (.invokevirtual 88, 3) := by decide +kernel
theorem dw_665 : decode code 665 = .ok (.if_icmp .eq 654, 3) := by decide +kernel
theorem dw_668 : decode code 668 = .ok (.iconst 0, 1) := by decide +kernel
theorem dw_669 : decode code 669 = .ok (.ireturn, 1) := by decide +kernel
theorem dw_670 : decode code 670 = .ok (.aload_n 1, 1) := by decide +kernel
theorem dw_671 : decode code 671 = .ok (.aload_n 0, 1) := by decide +kernel
theorem dw_672 : decode code 672 = .ok (.iload_n 3, 1) := by decide +kernel
theorem dw_673 : decode code 673 = .ok (.iconst 1, 1) := by decide +kernel
theorem dw_674 : decode code 674 = .ok (.iadd, 1) := by decide +kernel
theorem dw_675 : decode code 675 = .ok (.iaload, 1) := by decide +kernel
theorem dw_676 : decode code 676 = .ok (.aload_n 0, 1) := by decide +kernel
theorem dw_677 : decode code 677 = .ok (.iload_n 3, 1) := by decide +kernel
theorem dw_678 : decode code 678 = .ok (.iconst 2, 1) := by decide +kernel
theorem dw_679 : decode code 679 = .ok (.iadd, 1) := by decide +kernel
theorem dw_680 : decode code 680 = .ok (.iaload, 1) := by decide +kernel
theorem dw_681 : decode code 681 = .ok (.aload_n 0, 1) := by decide +kernel
theorem dw_682 : decode code 682 = .ok (.iload_n 3, 1) := by decide +kernel
theorem dw_683 : decode code 683 = .ok (.iconst 3, 1) := by decide +kernel
theorem dw_684 : decode code 684 = .ok (.iadd, 1) := by decide +kernel
theorem dw_685 : decode code 685 = .ok (.iaload, 1) := by decide +kernel
theorem dw_686 : decode code 686 = .ok (.invokevirtual 89, 3) := by decide +kernel
theorem dw_689 : decode code 689 = .ok (.aload_n 2, 1) := by decide +kernel
theorem dw_690 : decode code 690 = .ok (.aload_n 0, 1) := by decide +kernel
theorem dw_691 : decode code 691 = .ok (.iload_n 3, 1) := by decide +kernel
theorem dw_692 : decode code 692 = .ok (.iconst 1, 1) := by decide +kernel
theorem dw_693 : decode code 693 = .ok (.iadd, 1) := by decide +kernel
theorem dw_694 : decode code 694 = .ok (.iaload, 1) := by decide +kernel
theorem dw_695 : decode code 695 = .ok (.aload_n 0, 1) := by decide +kernel
theorem dw_696 : decode code 696 = .ok (.iload_n 3, 1) := by decide +kernel
theorem dw_697 : decode code 697 = .ok (.iconst 2, 1) := by decide +kernel
theorem dw_698 : decode code 698 = .ok (.iadd, 1) := by decide +kernel
theorem dw_699 : decode code 699 = .ok (.iaload, 1) := by decide +kernel
theorem dw_700 : decode code 700 = .ok (.aload_n 0, 1) := by decide +kernel
theorem dw_701 : decode code 701 = .ok (.iload_n 3, 1) := by decide +kernel
theorem dw_702 : decode code 702 = .ok (.iconst 3, 1) := by decide +kernel
theorem dw_703 : decode code 703 = .ok (.iadd, 1) := by decide +kernel
theorem dw_704 : decode code 704 = .ok (.iaload, 1) := by decide +kernel
theorem dw_705 : decode code 705 = .ok (.invokevirtual 92, 3) := by decide +kernel
theorem dw_708 : decode code 708 = .ok (.if_icmp .eq 611, 3) := by decide +kernel
theorem dw_711 : decode code 711 = .ok (.iconst 0, 1) := by decide +kernel
theorem dw_712 : decode code 712 = .ok (.ireturn, 1) := by decide +kernel
theorem dw_713 : decode code 713 = .ok (.aload_n 1, 1) := by decide +kernel
theorem dw_714 : decode code 714 = .ok (.aload_n 0, 1) := by decide +kernel
theorem dw_715 : decode code 715 = .ok (.iload_n 3, 1) := by decide +kernel
theorem dw_716 : decode code 716 = .ok (.iconst 1, 1) := by decide +kernel
theorem dw_717 : decode code 717 = .ok (.iadd, 1) := by decide +kernel
theorem dw_718 : decode code 718 = .ok (.iaload, 1) := by decide +kernel
theorem dw_719 : decode code 719 = .ok (.aload_n 0, 1) := by decide +kernel
theorem dw_720 : decode code 720 = .ok (.iload_n 3, 1) := by decide +kernel
theorem dw_721 : decode code 721 = .ok (.iconst 2, 1) := by decide +kernel
theorem dw_722 : decode code 722 = .ok (.iadd, 1) := by decide +kernel
theorem dw_723 : decode code 723 = .ok (.iaload, 1) := by decide +kernel
theorem dw_724 : decode code 724 = .ok (.invokevirtual 93, 3) := by decide +kernel
theorem dw_727 : decode code 727 = .ok (.aload_n 2, 1) := by decide +kernel
theorem dw_728 : decode code 728 = .ok (.aload_n 0, 1) := by decide +kernel
theorem dw_729 : decode code 729 = .ok (.iload_n 3, 1) := by decide +kernel
theorem dw_730 : decode code 730 = .ok (.iconst 1, 1) := by decide +kernel
theorem dw_731 : decode code 731 = .ok (.iadd, 1) := by decide +kernel
theorem dw_732 : decode code 732 = .ok (.iaload, 1) := by decide +kernel
theorem dw_733 : decode code 733 = .ok (.aload_n 0, 1) := by decide +kernel
theorem dw_734 : decode code 734 = .ok (.iload_n 3, 1) := by decide +kernel
theorem dw_735 : decode code 735 = .ok (.iconst 2, 1) := by decide +kernel
theorem dw_736 : decode code 736 = .ok (.iadd, 1) := by decide +kernel
theorem dw_737 : decode code 737 = .ok (.iaload, 1) := by decide +kernel
theorem dw_738 : decode code 738 = .ok (.invokevirtual 96, 3) := by decide +kernel
theorem dw_741 : decode code 741 = .ok (.if_icmp .eq 578, 3) := by decide +kernel
theorem dw_744 : decode code 744 = .ok (.iconst 0, 1) := by decide +kernel
theorem dw_745 : decode code 745 = .ok (.ireturn, 1) := by decide +kernel
theorem dw_746 : decode code 746 = .ok (.aload_n 1, 1) := by decide +kernel
theorem dw_747 : decode code 747 = .ok (.aload_n 0, 1) := by decide +kernel
theorem dw_748 : decode code 748 = .ok (.iload_n 3, 1) := by decide +kernel
theorem dw_749 : decode code 749 = .ok (.iconst 1, 1) := by decide +kernel
theorem dw_750 : decode code 750 = .ok (.iadd, 1) := by decide +kernel
theorem dw_751 : decode code 751 = .ok (.iaload, 1) := by decide +kernel
theorem dw_752 : decode code 752 = .ok (.invokevirtual 97, 3) := by decide +kernel
theorem dw_755 : decode code 755 = .ok (.aload_n 2, 1) := by decide +kernel
theorem dw_756 : decode code 756 = .ok (.aload_n 0, 1) := by decide +kernel
theorem dw_757 : decode code 757 = .ok (.iload_n 3, 1) := by decide +kernel
theorem dw_758 : decode code 758 = .ok (.iconst 1, 1) := by decide +kernel
theorem dw_759 : decode code 759 = .ok (.iadd, 1) := by decide +kernel
theorem dw_760 : decode code 760 = .ok (.iaload, 1) := by decide +kernel
theorem dw_761 : decode code 761 = .ok (.invokevirtual 100, 3) := by decide +kernel
theorem dw_764 : decode code 764 = .ok (.if_icmp .eq 555, 3) := by decide +kernel
theorem dw_767 : decode code 767 = .ok (.iconst 0, 1) := by decide +kernel
theorem dw_768 : decode code 768 = .ok (.ireturn, 1) := by decide +kernel
theorem dw_769 : decode code 769 = .ok (.aload_n 1, 1) := by decide +kernel
theorem dw_770 : decode code 770 = .ok (.aload_n 0, 1) := by decide +kernel
theorem dw_771 : decode code 771 = .ok (.iload_n 3, 1) := by decide +kernel
theorem dw_772 : decode code 772 = .ok (.iconst 1, 1) := by decide +kernel
theorem dw_773 : decode code 773 = .ok (.iadd, 1) := by decide +kernel
theorem dw_774 : decode code 774 = .ok (.iaload, 1) := by decide +kernel
theorem dw_775 : decode code 775 = .ok (.aload_n 0, 1) := by decide +kernel
theorem dw_776 : decode code 776 = .ok (.iload_n 3, 1) := by decide +kernel
theorem dw_777 : decode code 777 = .ok (.iconst 2, 1) := by decide +kernel
theorem dw_778 : decode code 778 = .ok (.iadd, 1) := by decide +kernel
theorem dw_779 : decode code 779 = .ok (.iaload, 1) := by decide +kernel
theorem dw_780 : decode code 780 = .ok (.invokevirtual 101, 3) := by decide +kernel
theorem dw_783 : decode code 783 = .ok (.aload_n 2, 1) := by decide +kernel
theorem dw_784 : decode code 784 = .ok (.aload_n 0, 1) := by decide +kernel
theorem dw_785 : decode code 785 = .ok (.iload_n 3, 1) := by decide +kernel
theorem dw_786 : decode code 786 = .ok (.iconst 1, 1) := by decide +kernel
theorem dw_787 : decode code 787 = .ok (.iadd, 1) := by decide +kernel
theorem dw_788 : decode code 788 = .ok (.iaload, 1) := by decide +kernel
theorem dw_789 : decode code 789 = .ok (.aload_n 0, 1) := by decide +kernel
theorem dw_790 : decode code 790 = .ok (.iload_n 3, 1) := by decide +kernel
theorem dw_791 : decode code 791 = .ok (.iconst 2, 1) := by decide +kernel
theorem dw_792 : decode code 792 = .ok (.iadd, 1) := by decide +kernel
theorem dw_793 : decode code 793 = .ok (.iaload, 1) := by decide +kernel
theorem dw_794 : decode code 794 = .ok (.invokevirtual 104, 3) := by decide +kernel
theorem dw_797 : decode code 797 = .ok (.if_icmp .eq 522, 3) := by decide +kernel
theorem dw_800 : decode code 800 = .ok (.iconst 0, 1) := by decide +kernel
theorem dw_801 : decode code 801 = .ok (.ireturn, 1) := by decide +kernel
theorem dw_802 : decode code 802 = .ok (.aload_n 1, 1) := by decide +kernel
theorem dw_803 : decode code 803 = .ok (.aload_n 0, 1) := by decide +kernel
theorem dw_804 : decode code 804 = .ok (.iload_n 3, 1) := by decide +kernel
theorem dw_805 : decode code 805 = .ok (.iconst 1, 1) := by decide +kernel
theorem dw_806 : decode code 806 = .ok (.iadd, 1) := by decide +kernel
theorem dw_807 : decode code 807 = .ok (.iaload, 1) := by decide +kernel
theorem dw_808 : decode code 808 = .ok (.aload_n 0, 1) := by decide +kernel
theorem dw_809 : decode code 809 = .ok (.iload_n 3, 1) := by decide +kernel
theorem dw_810 : decode code 810 = .ok (.iconst 2, 1) := by decide +kernel
theorem dw_811 : decode code 811 = .ok (.iadd, 1) := by decide +kernel
theorem dw_812 : decode code 812 = .ok (.iaload, 1) := by decide +kernel
theorem dw_813 : decode code 813 = .ok (.aload_n 0, 1) := by decide +kernel
theorem dw_814 : decode code 814 = .ok (.iload_n 3, 1) := by decide +kernel
theorem dw_815 : decode code 815 = .ok (.iconst 3, 1) := by decide +kernel
theorem dw_816 : decode code 816 = .ok (.iadd, 1) := by decide +kernel
theorem dw_817 : decode code 817 = .ok (.iaload, 1) := by decide +kernel
theorem dw_818 : decode code 818 = .ok (.invokevirtual 105, 3) := by decide +kernel
theorem dw_821 : decode code 821 = .ok (.aload_n 2, 1) := by decide +kernel
theorem dw_822 : decode code 822 = .ok (.aload_n 0, 1) := by decide +kernel
theorem dw_823 : decode code 823 = .ok (.iload_n 3, 1) := by decide +kernel
theorem dw_824 : decode code 824 = .ok (.iconst 1, 1) := by decide +kernel
theorem dw_825 : decode code 825 = .ok (.iadd, 1) := by decide +kernel
theorem dw_826 : decode code 826 = .ok (.iaload, 1) := by decide +kernel
theorem dw_827 : decode code 827 = .ok (.aload_n 0, 1) := by decide +kernel
theorem dw_828 : decode code 828 = .ok (.iload_n 3, 1) := by decide +kernel
theorem dw_829 : decode code 829 = .ok (.iconst 2, 1) := by decide +kernel
theorem dw_830 : decode code 830 = .ok (.iadd, 1) := by decide +kernel
theorem dw_831 : decode code 831 = .ok (.iaload, 1) := by decide +kernel
theorem dw_832 : decode code 832 = .ok (.aload_n 0, 1) := by decide +kernel
theorem dw_833 : decode code 833 = .ok (.iload_n 3, 1) := by decide +kernel
theorem dw_834 : decode code 834 = .ok (.iconst 3, 1) := by decide +kernel
theorem dw_835 : decode code 835 = .ok (.iadd, 1) := by decide +kernel
theorem dw_836 : decode code 836 = .ok (.iaload, 1) := by decide +kernel
theorem dw_837 : decode code 837 = .ok (.invokevirtual 108, 3) := by decide +kernel
theorem dw_840 : decode code 840 = .ok (.if_icmp .eq 479, 3) := by decide +kernel
theorem dw_843 : decode code 843 = .ok (.iconst 0, 1) := by decide +kernel
theorem dw_844 : decode code 844 = .ok (.ireturn, 1) := by decide +kernel
theorem dw_845 : decode code 845 = .ok (.aload_n 1, 1) := by decide +kernel
theorem dw_846 : decode code 846 = .ok (.invokevirtual 109, 3) := by decide +kernel
theorem dw_849 : decode code 849 = .ok (.aload_n 2, 1) := by decide +kernel
theorem dw_850 : decode code 850 = .ok (.invokevirtual 112, 3) := by decide +kernel
theorem dw_853 : decode code 853 = .ok (.if_icmp .eq 466, 3) := by decide +kernel
theorem dw_856 : decode code 856 = .ok (.iconst 0, 1) := by decide +kernel
theorem dw_857 : decode code 857 = .ok (.ireturn, 1) := by decide +kernel
theorem dw_858 : decode code 858 = .ok (.aload_n 1, 1) := by decide +kernel
theorem dw_859 : decode code 859 = .ok (.invokevirtual 113, 3) := by decide +kernel
theorem dw_862 : decode code 862 = .ok (.aload_n 2, 1) := by decide +kernel
theorem dw_863 : decode code 863 = .ok (.invokevirtual 116, 3) := by decide +kernel
theorem dw_866 : decode code 866 = .ok (.if_icmp .eq 453, 3) := by decide +kernel
theorem dw_869 : decode code 869 = .ok (.iconst 0, 1) := by decide +kernel
theorem dw_870 : decode code 870 = .ok (.ireturn, 1) := by decide +kernel
theorem dw_871 : decode code 871 = .ok (.aload_n 1, 1) := by decide +kernel
theorem dw_872 : decode code 872 = .ok (.aload_n 0, 1) := by decide +kernel
theorem dw_873 : decode code 873 = .ok (.iload_n 3, 1) := by decide +kernel
theorem dw_874 : decode code 874 = .ok (.iconst 1, 1) := by decide +kernel
theorem dw_875 : decode code 875 = .ok (.iadd, 1) := by decide +kernel
theorem dw_876 : decode code 876 = .ok (.iaload, 1) := by decide +kernel
theorem dw_877 : decode code 877 = .ok (.aload_n 0, 1) := by decide +kernel
theorem dw_878 : decode code 878 = .ok (.iload_n 3, 1) := by decide +kernel
theorem dw_879 : decode code 879 = .ok (.iconst 2, 1) := by decide +kernel
theorem dw_880 : decode code 880 = .ok (.iadd, 1) := by decide +kernel
theorem dw_881 : decode code 881 = .ok (.iaload, 1) := by decide +kernel
theorem dw_882 : decode code 882 = .ok (.invokevirtual 117, 3) := by decide +kernel
theorem dw_885 : decode code 885 = .ok (.aload_n 2, 1) := by decide +kernel
theorem dw_886 : decode code 886 = .ok (.aload_n 0, 1) := by decide +kernel
theorem dw_887 : decode code 887 = .ok (.iload_n 3, 1) := by decide +kernel
theorem dw_888 : decode code 888 = .ok (.iconst 1, 1) := by decide +kernel
theorem dw_889 : decode code 889 = .ok (.iadd, 1) := by decide +kernel
theorem dw_890 : decode code 890 = .ok (.iaload, 1) := by decide +kernel
theorem dw_891 : decode code 891 = .ok (.aload_n 0, 1) := by decide +kernel
theorem dw_892 : decode code 892 = .ok (.iload_n 3, 1) := by decide +kernel
theorem dw_893 : decode code 893 = .ok (.iconst 2, 1) := by decide +kernel
theorem dw_894 : decode code 894 = .ok (.iadd, 1) := by decide +kernel
theorem dw_895 : decode code 895 = .ok (.iaload, 1) := by decide +kernel
theorem dw_896 : decode code 896 = .ok (.invokevirtual 120, 3) := by decide +kernel
theorem dw_899 : decode code 899 = .ok (.if_icmp .eq 420, 3) := by decide +kernel
theorem dw_902 : decode code 902 = .ok (.iconst 0, 1) := by decide +kernel
theorem dw_903 : decode code 903 = .ok (.ireturn, 1) := by decide +kernel
theorem dw_904 : decode code 904 = .ok (.aload_n 1, 1) := by decide +kernel
theorem dw_905 : decode code 905 = .ok (.aload_n 0, 1) := by decide +kernel
theorem dw_906 : decode code 906 = .ok (.iload_n 3, 1) := by decide +kernel
theorem dw_907 : decode code 907 = .ok (.iconst 1, 1) := by decide +kernel
theorem dw_908 : decode code 908 = .ok (.iadd, 1) := by decide +kernel
theorem dw_909 : decode code 909 = .ok (.iaload, 1) := by decide +kernel
theorem dw_910 : decode code 910 = .ok (.invokevirtual 121, 3) := by decide +kernel
theorem dw_913 : decode code 913 = .ok (.aload_n 2, 1) := by decide +kernel
theorem dw_914 : decode code 914 = .ok (.aload_n 0, 1) := by decide +kernel
theorem dw_915 : decode code 915 = .ok (.iload_n 3, 1) := by decide +kernel
theorem dw_916 : decode code 916 = .ok (.iconst 1, 1) := by decide +kernel
theorem dw_917 : decode code 917 = .ok (.iadd, 1) := by decide +kernel
theorem dw_918 : decode code 918 = .ok (.iaload, 1) := by decide +kernel
theorem dw_919 : decode code 919 = .ok (.invokevirtual 124, 3) := by decide +kernel
theorem dw_922 : decode code 922 = .ok (.if_icmp .eq 397, 3) := by decide +kernel
theorem dw_925 : decode code 925 = .ok (.iconst 0, 1) := by decide +kernel
theorem dw_926 : decode code 926 = .ok (.ireturn, 1) := by decide +kernel
theorem dw_927 : decode code 927 = .ok (.aload_n 1, 1) := by decide +kernel
theorem dw_928 : decode code 928 = .ok (.aload_n 0, 1) := by decide +kernel
theorem dw_929 : decode code 929 = .ok (.iload_n 3, 1) := by decide +kernel
theorem dw_930 : decode code 930 = .ok (.iconst 1, 1) := by decide +kernel
theorem dw_931 : decode code 931 = .ok (.iadd, 1) := by decide +kernel
theorem dw_932 : decode code 932 = .ok (.iaload, 1) := by decide +kernel
theorem dw_933 : decode code 933 = .ok (.aload_n 0, 1) := by decide +kernel
theorem dw_934 : decode code 934 = .ok (.iload_n 3, 1) := by decide +kernel
theorem dw_935 : decode code 935 = .ok (.iconst 2, 1) := by decide +kernel
theorem dw_936 : decode code 936 = .ok (.iadd, 1) := by decide +kernel
theorem dw_937 : decode code 937 = .ok (.iaload, 1) := by decide +kernel
theorem dw_938 : decode code 938 = .ok (.aload_n 0, 1) := by decide +kernel
theorem dw_939 : decode code 939 = .ok (.iload_n 3, 1) := by decide +kernel
theorem dw_940 : decode code 940 = .ok (.iconst 3, 1) := by decide +kernel
theorem dw_941 : decode code 941 = .ok (.iadd, 1) := by decide +kernel
theorem dw_942 : decode code 942 = .ok (.iaload, 1) := by decide +kernel
theorem dw_943 : decode code 943 = .ok (.aload_n 0, 1) := by decide +kernel
theorem dw_944 : decode code 944 = .ok (.iload_n 3, 1) := by decide +kernel
theorem dw_945 : decode code 945 = .ok (.iconst 4, 1) := by decide +kernel
theorem dw_946 : decode code 946 = .ok (.iadd, 1) := by decide +kernel
theorem dw_947 : decode code 947 = .ok (.iaload, 1) := by decide +kernel
theorem dw_948 : decode code 948 = .ok (.invokevirtual 125, 3) := by decide +kernel
theorem dw_951 : decode code 951 = .ok (.aload_n 2, 1) := by decide +kernel
theorem dw_952 : decode code 952 = .ok (.aload_n 0, 1) := by decide +kernel
theorem dw_953 : decode code 953 = .ok (.iload_n 3, 1) := by decide +kernel
theorem dw_954 : decode code 954 = .ok (.iconst 1, 1) := by decide +kernel
theorem dw_955 : decode code 955 = .ok (.iadd, 1) := by decide +kernel
theorem dw_956 : decode code 956 = .ok (.iaload, 1) := by decide +kernel
theorem dw_957 : decode code 957 = .ok (.aload_n 0, 1) := by decide +kernel
theorem dw_958 : decode code 958 = .ok (.iload_n 3, 1) := by decide +kernel
theorem dw_959 : decode code 959 = .ok (.iconst 2, 1) := by decide +kernel
theorem dw_960 : decode code 960 = .ok (.iadd, 1) := by decide +kernel
theorem dw_961 : decode code 961 = .ok (.iaload, 1) := by decide +kernel
theorem dw_962 : decode code 962 = .ok (.aload_n 0, 1) := by decide +kernel
theorem dw_963 : decode code 963 = .ok (.iload_n 3, 1) := by decide +kernel
theorem dw_964 : decode code 964 = .ok (.iconst 3, 1) := by decide +kernel
theorem dw_965 : decode code 965 = .ok (.iadd, 1) := by decide +kernel
theorem dw_966 : decode code 966 = .ok (.iaload, 1) := by decide +kernel
theorem dw_967 : decode code 967 = .ok (.aload_n 0, 1) := by decide +kernel
theorem dw_968 : decode code 968 = .ok (.iload_n 3, 1) := by decide +kernel
theorem dw_969 : decode code 969 = .ok (.iconst 4, 1) := by decide +kernel
theorem dw_970 : decode code 970 = .ok (.iadd, 1) := by decide +kernel
theorem dw_971 : decode code 971 = .ok (.iaload, 1) := by decide +kernel
theorem dw_972 : decode code 972 = .ok (.invokevirtual 129, 3) := by decide +kernel
theorem dw_975 : decode code 975 = .ok (.lcmp, 1) := by decide +kernel
theorem dw_976 : decode code 976 = .ok (.ifCond .eq 343, 3) := by decide +kernel
theorem dw_979 : decode code 979 = .ok (.iconst 0, 1) := by decide +kernel
theorem dw_980 : decode code 980 = .ok (.ireturn, 1) := by decide +kernel
theorem dw_981 : decode code 981 = .ok (.aload_n 1, 1) := by decide +kernel
theorem dw_982 : decode code 982 = .ok (.aload_n 0, 1) := by decide +kernel
theorem dw_983 : decode code 983 = .ok (.iload_n 3, 1) := by decide +kernel
theorem dw_984 : decode code 984 = .ok (.iconst 1, 1) := by decide +kernel
theorem dw_985 : decode code 985 = .ok (.iadd, 1) := by decide +kernel
theorem dw_986 : decode code 986 = .ok (.iaload, 1) := by decide +kernel
theorem dw_987 : decode code 987 = .ok (.aload_n 0, 1) := by decide +kernel
theorem dw_988 : decode code 988 = .ok (.iload_n 3, 1) := by decide +kernel
theorem dw_989 : decode code 989 = .ok (.iconst 2, 1) := by decide +kernel
theorem dw_990 : decode code 990 = .ok (.iadd, 1) := by decide +kernel
theorem dw_991 : decode code 991 = .ok (.iaload, 1) := by decide +kernel
theorem dw_992 : decode code 992 = .ok (.aload_n 0, 1) := by decide +kernel
theorem dw_993 : decode code 993 = .ok (.iload_n 3, 1) := by decide +kernel
theorem dw_994 : decode code 994 = .ok (.iconst 3, 1) := by decide +kernel
theorem dw_995 : decode code 995 = .ok (.iadd, 1) := by decide +kernel
theorem dw_996 : decode code 996 = .ok (.iaload, 1) := by decide +kernel
theorem dw_997 : decode code 997 = .ok (.invokevirtual 130, 3) := by decide +kernel
theorem dw_1000 : decode code 1000 = .ok (.aload_n 2, 1) := by decide +kernel
theorem dw_1001 : decode code 1001 = .ok (.aload_n 0, 1) := by decide +kernel
theorem dw_1002 : decode code 1002 = .ok (.iload_n 3, 1) := by decide +kernel
theorem dw_1003 : decode code 1003 = .ok (.iconst 1, 1) := by decide +kernel
theorem dw_1004 : decode code 1004 = .ok (.iadd, 1) := by decide +kernel
theorem dw_1005 : decode code 1005 = .ok (.iaload, 1) := by decide +kernel
theorem dw_1006 : decode code 1006 = .ok (.aload_n 0, 1) := by decide +kernel
theorem dw_1007 : decode code 1007 = .ok (.iload_n 3, 1) := by decide +kernel
theorem dw_1008 : decode code 1008 = .ok (.iconst 2, 1) := by decide +kernel
theorem dw_1009 : decode code 1009 = .ok (.iadd, 1) := by decide +kernel
theorem dw_1010 : decode code 1010 = .ok (.iaload, 1) := by decide +kernel
theorem dw_1011 : decode code 1011 = .ok (.aload_n 0, 1) := by decide +kernel
theorem dw_1012 : decode code 1012 = .ok (.iload_n 3, 1) := by decide +kernel
theorem dw_1013 : decode code 1013 = .ok (.iconst 3, 1) := by decide +kernel
theorem dw_1014 : decode code 1014 = .ok (.iadd, 1) := by decide +kernel
theorem dw_1015 : decode code 1015 = .ok (.iaload, 1) := by decide +kernel
theorem dw_1016 : decode code 1016 = .ok (.invokevirtual 133, 3) := by decide +kernel
theorem dw_1019 : decode code 1019 = .ok (.if_icmp .eq 300, 3) := by decide +kernel
theorem dw_1022 : decode code 1022 = .ok (.iconst 0, 1) := by decide +kernel
theorem dw_1023 : decode code 1023 = .ok (.ireturn, 1) := by decide +kernel
theorem dw_1024 : decode code 1024 = .ok (.aload_n 1, 1) := by decide +kernel
theorem dw_1025 : decode code 1025 = .ok (.aload_n 0, 1) := by decide +kernel
theorem dw_1026 : decode code 1026 = .ok (.iload_n 3, 1) := by decide +kernel
theorem dw_1027 : decode code 1027 = .ok (.iconst 1, 1) := by decide +kernel
theorem dw_1028 : decode code 1028 = .ok (.iadd, 1) := by decide +kernel
theorem dw_1029 : decode code 1029 = .ok (.iaload, 1) := by decide +kernel
theorem dw_1030 : decode code 1030 = .ok (.aload_n 0, 1) := by decide +kernel
theorem dw_1031 : decode code 1031 = .ok (.iload_n 3, 1) := by decide +kernel
theorem dw_1032 : decode code 1032 = .ok (.iconst 2, 1) := by decide +kernel
theorem dw_1033 : decode code 1033 = .ok (.iadd, 1) := by decide +kernel
theorem dw_1034 : decode code 1034 = .ok (.iaload, 1) := by decide +kernel
theorem dw_1035 : decode code 1035 = .ok (.aload_n 0, 1) := by decide +kernel
theorem dw_1036 : decode code 1036 = .ok (.iload_n 3, 1) := by decide +kernel
theorem dw_1037 : decode code 1037 = .ok (.iconst 3, 1) := by decide +kernel
theorem dw_1038 : decode code 1038 = .ok (.iadd, 1) := by decide +kernel
theorem dw_1039 : decode code 1039 = .ok (.iaload, 1) := by decide +kernel
theorem dw_1040 : decode code 1040 = .ok (.invokevirtual 134, 3) := by decide +kernel
theorem dw_1043 : decode code 1043 = .ok (.aload_n 2, 1) := by decide +kernel
theorem dw_1044 : decode code 1044 = .ok (.aload_n 0, 1) := by decide +kernel
theorem dw_1045 : decode code 1045 = .ok (.iload_n 3, 1) := by decide +kernel
theorem dw_1046 : decode code 1046 = .ok (.iconst 1, 1) := by decide +kernel
theorem dw_1047 : decode code 1047 = .ok (.iadd, 1) := by decide +kernel
theorem dw_1048 : decode code 1048 = .ok (.iaload, 1) := by decide +kernel
theorem dw_1049 : decode code 1049 = .ok (.aload_n 0, 1) := by decide +kernel
theorem dw_1050 : decode code 1050 = .ok (.iload_n 3, 1) := by decide +kernel
theorem dw_1051 : decode code 1051 = .ok (.iconst 2, 1) := by decide +kernel
theorem dw_1052 : decode code 1052 = .ok (.iadd, 1) := by decide +kernel
theorem dw_1053 : decode code 1053 = .ok (.iaload, 1) := by decide +kernel
theorem dw_1054 : decode code 1054 = .ok (.aload_n 0, 1) := by decide +kernel
theorem dw_1055 : decode code 1055 = .ok (.iload_n 3, 1) := by decide +kernel
theorem dw_1056 : decode code 1056 = .ok (.iconst 3, 1) := by decide +kernel
theorem dw_1057 : decode code 1057 = .ok (.iadd, 1) := by decide +kernel
theorem dw_1058 : decode code 1058 = .ok (.iaload, 1) := by decide +kernel
theorem dw_1059 : decode code 1059 = .ok (.invokevirtual 137, 3) := by decide +kernel
theorem dw_1062 : decode code 1062 = .ok (.if_icmp .eq 257, 3) := by decide +kernel
theorem dw_1065 : decode code 1065 = .ok (.iconst 0, 1) := by decide +kernel
theorem dw_1066 : decode code 1066 = .ok (.ireturn, 1) := by decide +kernel
theorem dw_1067 : decode code 1067 = .ok (.aload_n 1, 1) := by decide +kernel
theorem dw_1068 : decode code 1068 = .ok (.aload_n 0, 1) := by decide +kernel
theorem dw_1069 : decode code 1069 = .ok (.iload_n 3, 1) := by decide +kernel
theorem dw_1070 : decode code 1070 = .ok (.iconst 1, 1) := by decide +kernel
theorem dw_1071 : decode code 1071 = .ok (.iadd, 1) := by decide +kernel
theorem dw_1072 : decode code 1072 = .ok (.iaload, 1) := by decide +kernel
theorem dw_1073 : decode code 1073 = .ok (.invokevirtual 138, 3) := by decide +kernel
theorem dw_1076 : decode code 1076 = .ok (.aload_n 2, 1) := by decide +kernel
theorem dw_1077 : decode code 1077 = .ok (.aload_n 0, 1) := by decide +kernel
theorem dw_1078 : decode code 1078 = .ok (.iload_n 3, 1) := by decide +kernel
theorem dw_1079 : decode code 1079 = .ok (.iconst 1, 1) := by decide +kernel
theorem dw_1080 : decode code 1080 = .ok (.iadd, 1) := by decide +kernel
theorem dw_1081 : decode code 1081 = .ok (.iaload, 1) := by decide +kernel
theorem dw_1082 : decode code 1082 = .ok (.invokevirtual 141, 3) := by decide +kernel
theorem dw_1085 : decode code 1085 = .ok (.if_icmp .eq 234, 3) := by decide +kernel
theorem dw_1088 : decode code 1088 = .ok (.iconst 0, 1) := by decide +kernel
theorem dw_1089 : decode code 1089 = .ok (.ireturn, 1) := by decide +kernel
theorem dw_1090 : decode code 1090 = .ok (.aload_n 1, 1) := by decide +kernel
theorem dw_1091 : decode code 1091 = .ok (.aload_n 0, 1) := by decide +kernel
theorem dw_1092 : decode code 1092 = .ok (.iload_n 3, 1) := by decide +kernel
theorem dw_1093 : decode code 1093 = .ok (.iconst 1, 1) := by decide +kernel
theorem dw_1094 : decode code 1094 = .ok (.iadd, 1) := by decide +kernel
theorem dw_1095 : decode code 1095 = .ok (.iaload, 1) := by decide +kernel
theorem dw_1096 : decode code 1096 = .ok (.aload_n 0, 1) := by decide +kernel
theorem dw_1097 : decode code 1097 = .ok (.iload_n 3, 1) := by decide +kernel
theorem dw_1098 : decode code 1098 = .ok (.iconst 2, 1) := by decide +kernel
theorem dw_1099 : decode code 1099 = .ok (.iadd, 1) := by decide +kernel
theorem dw_1100 : decode code 1100 = .ok (.iaload, 1) := by decide +kernel
theorem dw_1101 : decode code 1101 = .ok (.aload_n 0, 1) := by decide +kernel
theorem dw_1102 : decode code 1102 = .ok (.iload_n 3, 1) := by decide +kernel
theorem dw_1103 : decode code 1103 = .ok (.iconst 3, 1) := by decide +kernel
theorem dw_1104 : decode code 1104 = .ok (.iadd, 1) := by decide +kernel
theorem dw_1105 : decode code 1105 = .ok (.iaload, 1) := by decide +kernel
theorem dw_1106 : decode code 1106 = .ok (.aload_n 0, 1) := by decide +kernel
theorem dw_1107 : decode code 1107 = .ok (.iload_n 3, 1) := by decide +kernel
theorem dw_1108 : decode code 1108 = .ok (.iconst 4, 1) := by decide +kernel
theorem dw_1109 : decode code 1109 = .ok (.iadd, 1) := by decide +kernel
theorem dw_1110 : decode code 1110 = .ok (.iaload, 1) := by decide +kernel
theorem dw_1111 : decode code 1111 = .ok (.invokevirtual 142, 3) := by decide +kernel
theorem dw_1114 : decode code 1114 = .ok (.aload_n 2, 1) := by decide +kernel
theorem dw_1115 : decode code 1115 = .ok (.aload_n 0, 1) := by decide +kernel
theorem dw_1116 : decode code 1116 = .ok (.iload_n 3, 1) := by decide +kernel
theorem dw_1117 : decode code 1117 = .ok (.iconst 1, 1) := by decide +kernel
theorem dw_1118 : decode code 1118 = .ok (.iadd, 1) := by decide +kernel
theorem dw_1119 : decode code 1119 = .ok (.iaload, 1) := by decide +kernel
theorem dw_1120 : decode code 1120 = .ok (.aload_n 0, 1) := by decide +kernel
theorem dw_1121 : decode code 1121 = .ok (.iload_n 3, 1) := by decide +kernel
theorem dw_1122 : decode code 1122 = .ok (.iconst 2, 1) := by decide +kernel
theorem dw_1123 : decode code 1123 = .ok (.iadd, 1) := by decide +kernel
theorem dw_1124 : decode code 1124 = .ok (.iaload, 1) := by decide +kernel
theorem dw_1125 : decode code 1125 = .ok (.aload_n 0, 1) := by decide +kernel
theorem dw_1126 : decode code 1126 = .ok (.iload_n 3, 1) := by decide +kernel
theorem dw_1127 : decode code 1127 = .ok (.iconst 3, 1) := by decide +kernel
theorem dw_1128 : decode code 1128 = .ok (.iadd, 1) := by decide +kernel
theorem dw_1129 : decode code 1129 = .ok (.iaload, 1) := by decide +kernel
theorem dw_1130 : decode code 1130 = .ok (.aload_n 0, 1) := by decide +kernel
theorem dw_1131 : decode code 1131 = .ok (.iload_n 3, 1) := by decide +kernel
theorem dw_1132 : decode code 1132 = .ok (.iconst 4, 1) := by decide +kernel
theorem dw_1133 : decode code 1133 = .ok (.iadd, 1) := by decide +kernel
theorem dw_1134 : decode code 1134 = .ok (.iaload, 1) := by decide +kernel
theorem dw_1135 : decode code 1135 = .ok (.invokevirtual 146, 3) := by decide +kernel
theorem dw_1138 : decode code 1138 = .ok (.if_icmp .eq 181, 3) := by decide +kernel
theorem dw_1141 : decode code 1141 = .ok (.iconst 0, 1) := by decide +kernel
theorem dw_1142 : decode code 1142 = .ok (.ireturn, 1) := by decide +kernel
theorem dw_1143 : decode code 1143 = .ok (.aload_n 1, 1) := by decide +kernel
theorem dw_1144 : decode code 1144 = .ok (.aload_n 0, 1) := by decide +kernel
theorem dw_1145 : decode code 1145 = .ok (.iload_n 3, 1) := by decide +kernel
theorem dw_1146 : decode code 1146 = .ok (.iconst 1, 1) := by decide +kernel
theorem dw_1147 : decode code 1147 = .ok (.iadd, 1) := by decide +kernel
theorem dw_1148 : decode code 1148 = .ok (.iaload, 1) := by decide +kernel
theorem dw_1149 : decode code 1149 = .ok (.aload_n 0, 1) := by decide +kernel
theorem dw_1150 : decode code 1150 = .ok (.iload_n 3, 1) := by decide +kernel
theorem dw_1151 : decode code 1151 = .ok (.iconst 2, 1) := by decide +kernel
theorem dw_1152 : decode code 1152 = .ok (.iadd, 1) := by decide +kernel
theorem dw_1153 : decode code 1153 = .ok (.iaload, 1) := by decide +kernel
theorem dw_1154 : decode code 1154 = .ok (.aload_n 0, 1) := by decide +kernel
theorem dw_1155 : decode code 1155 = .ok (.iload_n 3, 1) := by decide +kernel
theorem dw_1156 : decode code 1156 = .ok (.iconst 3, 1) := by decide +kernel
theorem dw_1157 : decode code 1157 = .ok (.iadd, 1) := by decide +kernel
theorem dw_1158 : decode code 1158 = .ok (.iaload, 1) := by decide +kernel
theorem dw_1159 : decode code 1159 = .ok (.invokevirtual 147, 3) := by decide +kernel
theorem dw_1162 : decode code 1162 = .ok (.aload_n 2, 1) := by decide +kernel
theorem dw_1163 : decode code 1163 = .ok (.aload_n 0, 1) := by decide +kernel
theorem dw_1164 : decode code 1164 = .ok (.iload_n 3, 1) := by decide +kernel
theorem dw_1165 : decode code 1165 = .ok (.iconst 1, 1) := by decide +kernel
theorem dw_1166 : decode code 1166 = .ok (.iadd, 1) := by decide +kernel
theorem dw_1167 : decode code 1167 = .ok (.iaload, 1) := by decide +kernel
theorem dw_1168 : decode code 1168 = .ok (.aload_n 0, 1) := by decide +kernel
theorem dw_1169 : decode code 1169 = .ok (.iload_n 3, 1) := by decide +kernel
theorem dw_1170 : decode code 1170 = .ok (.iconst 2, 1) := by decide +kernel
theorem dw_1171 : decode code 1171 = .ok (.iadd, 1) := by decide +kernel
theorem dw_1172 : decode code 1172 = .ok (.iaload, 1) := by decide +kernel
theorem dw_1173 : decode code 1173 = .ok (.aload_n 0, 1) := by decide +kernel
theorem dw_1174 : decode code 1174 = .ok (.iload_n 3, 1) := by decide +kernel
theorem dw_1175 : decode code 1175 = .ok (.iconst 3, 1) := by decide +kernel
theorem dw_1176 : decode code 1176 = .ok (.iadd, 1) := by decide +kernel
theorem dw_1177 : decode code 1177 = .ok (.iaload, 1) := by decide +kernel
theorem dw_1178 : decode code 1178 = .ok (.invokevirtual 150, 3) := by decide +kernel
theorem dw_1181 : decode code 1181 = .ok (.if_icmp .eq 138, 3) := by decide +kernel
theorem dw_1184 : decode code 1184 = .ok (.iconst 0, 1) := by decide +kernel
theorem dw_1185 : decode code 1185 = .ok (.ireturn, 1) := by decide +kernel
theorem dw_1186 : decode code 1186 = .ok (.aload_n 1, 1) := by decide +kernel
theorem dw_1187 : decode code 1187 = .ok (.aload_n 0, 1) := by decide +kernel
theorem dw_1188 : decode code 1188 = .ok (.iload_n 3, 1) := by decide +kernel
theorem dw_1189 : decode code 1189 = .ok (.iconst 1, 1) := by decide +kernel
theorem dw_1190 : decode code 1190 = .ok (.iadd, 1) := by decide +kernel
theorem dw_1191 : decode code 1191 = .ok (.iaload, 1) := by decide +kernel
theorem dw_1192 : decode code 1192 = .ok (.aload_n 0, 1) := by decide +kernel
theorem dw_1193 : decode code 1193 = .ok (.iload_n 3, 1) := by decide +kernel
theorem dw_1194 : decode code 1194 = .ok (.iconst 2, 1) := by decide +kernel
theorem dw_1195 : decode code 1195 = .ok (.iadd, 1) := by decide +kernel
theorem dw_1196 : decode code 1196 = .ok (.iaload, 1) := by decide +kernel
theorem dw_1197 : decode code 1197 = .ok (.aload_n 0, 1) := by decide +kernel
theorem dw_1198 : decode code 1198 = .ok (.iload_n 3, 1) := by decide +kernel
theorem dw_1199 : decode code 1199 = .ok (.iconst 3, 1) := by decide +kernel
theorem dw_1200 : decode code 1200 = .ok (.iadd, 1) := by decide +kernel
theorem dw_1201 : decode code 1201 = .ok (.iaload, 1) := by decide +kernel
theorem dw_1202 : decode code 1202 = .ok (.aload_n 0, 1) := by decide +kernel
theorem dw_1203 : decode code 1203 = .ok (.iload_n 3, 1) := by decide +kernel
theorem dw_1204 : decode code 1204 = .ok (.iconst 4, 1) := by decide +kernel
theorem dw_1205 : decode code 1205 = .ok (.iadd, 1) := by decide +kernel
theorem dw_1206 : decode code 1206 = .ok (.iaload, 1) := by decide +kernel
theorem dw_1207 : decode code 1207 = .ok (.aload_n 0, 1) := by decide +kernel
theorem dw_1208 : decode code 1208 = .ok (.iload_n 3, 1) := by decide +kernel
theorem dw_1209 : decode code 1209 = .ok (.iconst 5, 1) := by decide +kernel
theorem dw_1210 : decode code 1210 = .ok (.iadd, 1) := by decide +kernel
theorem dw_1211 : decode code 1211 = .ok (.iaload, 1) := by decide +kernel
theorem dw_1212 : decode code 1212 = .ok (.invokevirtual 151, 3) := by decide +kernel
theorem dw_1215 : decode code 1215 = .ok (.aload_n 2, 1) := by decide +kernel
theorem dw_1216 : decode code 1216 = .ok (.aload_n 0, 1) := by decide +kernel
theorem dw_1217 : decode code 1217 = .ok (.iload_n 3, 1) := by decide +kernel
theorem dw_1218 : decode code 1218 = .ok (.iconst 1, 1) := by decide +kernel
theorem dw_1219 : decode code 1219 = .ok (.iadd, 1) := by decide +kernel
theorem dw_1220 : decode code 1220 = .ok (.iaload, 1) := by decide +kernel
theorem dw_1221 : decode code 1221 = .ok (.aload_n 0, 1) := by decide +kernel
theorem dw_1222 : decode code 1222 = .ok (.iload_n 3, 1) := by decide +kernel
theorem dw_1223 : decode code 1223 = .ok (.iconst 2, 1) := by decide +kernel
theorem dw_1224 : decode code 1224 = .ok (.iadd, 1) := by decide +kernel
theorem dw_1225 : decode code 1225 = .ok (.iaload, 1) := by decide +kernel
theorem dw_1226 : decode code 1226 = .ok (.aload_n 0, 1) := by decide +kernel
theorem dw_1227 : decode code 1227 = .ok (.iload_n 3, 1) := by decide +kernel
theorem dw_1228 : decode code 1228 = .ok (.iconst 3, 1) := by decide +kernel
theorem dw_1229 : decode code 1229 = .ok (.iadd, 1) := by decide +kernel
theorem dw_1230 : decode code 1230 = .ok (.iaload, 1) := by decide +kernel
theorem dw_1231 : decode code 1231 = .ok (.aload_n 0, 1) := by decide +kernel
theorem dw_1232 : decode code 1232 = .ok (.iload_n 3, 1) := by decide +kernel
theorem dw_1233 : decode code 1233 = .ok (.iconst 4, 1) := by decide +kernel
theorem dw_1234 : decode code 1234 = .ok (.iadd, 1) := by decide +kernel
theorem dw_1235 : decode code 1235 = .ok (.iaload, 1) := by decide +kernel
theorem dw_1236 : decode code 1236 = .ok (.aload_n 0, 1) := by decide +kernel
theorem dw_1237 : decode code 1237 = .ok (.iload_n 3, 1) := by decide +kernel
theorem dw_1238 : decode code 1238 = .ok (.iconst 5, 1) := by decide +kernel
theorem dw_1239 : decode code 1239 = .ok (.iadd, 1) := by decide +kernel
theorem dw_1240 : decode code 1240 = .ok (.iaload, 1) := by decide +kernel
theorem dw_1241 : decode code 1241 = .ok (.invokevirtual 155, 3) := by decide +kernel
theorem dw_1244 : decode code 1244 = .ok (.if_icmp .eq 75, 3) := by decide +kernel
theorem dw_1247 : decode code 1247 = .ok (.iconst 0, 1) := by decide +kernel
theorem dw_1248 : decode code 1248 = .ok (.ireturn, 1) := by decide +kernel
theorem dw_1249 : decode code 1249 = .ok (.aload_n 1, 1) := by decide +kernel
theorem dw_1250 : decode code 1250 = .ok (.aload_n 0, 1) := by decide +kernel
theorem dw_1251 : decode code 1251 = .ok (.iload_n 3, 1) := by decide +kernel
theorem dw_1252 : decode code 1252 = .ok (.iconst 1, 1) := by decide +kernel
theorem dw_1253 : decode code 1253 = .ok (.iadd, 1) := by decide +kernel
theorem dw_1254 : decode code 1254 = .ok (.iaload, 1) := by decide +kernel
theorem dw_1255 : decode code 1255 = .ok (.aload_n 0, 1) := by decide +kernel
theorem dw_1256 : decode code 1256 = .ok (.iload_n 3, 1) := by decide +kernel
theorem dw_1257 : decode code 1257 = .ok (.iconst 2, 1) := by decide +kernel
theorem dw_1258 : decode code 1258 = .ok (.iadd, 1) := by decide +kernel
theorem dw_1259 : decode code 1259 = .ok (.iaload, 1) := by decide +kernel
theorem dw_1260 : decode code 1260 = .ok (.invokevirtual 156, 3) := by decide +kernel
theorem dw_1263 : decode code 1263 = .ok (.aload_n 2, 1) := by decide +kernel
theorem dw_1264 : decode code 1264 = .ok (.aload_n 0, 1) := by decide +kernel
theorem dw_1265 : decode code 1265 = .ok (.iload_n 3, 1) := by decide +kernel
theorem dw_1266 : decode code 1266 = .ok (.iconst 1, 1) := by decide +kernel
theorem dw_1267 : decode code 1267 = .ok (.iadd, 1) := by decide +kernel
theorem dw_1268 : decode code 1268 = .ok (.iaload, 1) := by decide +kernel
theorem dw_1269 : decode code 1269 = .ok (.aload_n 0, 1) := by decide +kernel
theorem dw_1270 : decode code 1270 = .ok (.iload_n 3, 1) := by decide +kernel
theorem dw_1271 : decode code 1271 = .ok (.iconst 2, 1) := by decide +kernel
theorem dw_1272 : decode code 1272 = .ok (.iadd, 1) := by decide +kernel
theorem dw_1273 : decode code 1273 = .ok (.iaload, 1) := by decide +kernel
theorem dw_1274 : decode code 1274 = .ok (.invokevirtual 159, 3) := by decide +kernel
theorem dw_1277 : decode code 1277 = .ok (.if_icmp .eq 42, 3) := by decide +kernel
theorem dw_1280 : decode code 1280 = .ok (.iconst 0, 1) := by decide +kernel
theorem dw_1281 : decode code 1281 = .ok (.ireturn, 1) := by decide +kernel
theorem dw_1282 : decode code 1282 = .ok (.aload_n 1, 1) := by decide +kernel
theorem dw_1283 : decode code 1283 = .ok (.aload_n 0, 1) := by decide +kernel
theorem dw_1284 : decode code 1284 = .ok (.iload_n 3, 1) := by decide +kernel
theorem dw_1285 : decode code 1285 = .ok (.iconst 1, 1) := by decide +kernel
theorem dw_1286 : decode code 1286 = .ok (.iadd, 1) := by decide +kernel
theorem dw_1287 : decode code 1287 = .ok (.iaload, 1) := by decide +kernel
theorem dw_1288 : decode code 1288 = .ok (.invokevirtual 160, 3) := by decide +kernel
theorem dw_1291 : decode code 1291 = .ok (.aload_n 2, 1) := by decide +kernel
theorem dw_1292 : decode code 1292 = .ok (.aload_n 0, 1) := by decide +kernel
theorem dw_1293 : decode code 1293 = .ok (.iload_n 3, 1) := by decide +kernel
theorem dw_1294 : decode code 1294 = .ok (.iconst 1, 1) := by decide +kernel
theorem dw_1295 : decode code 1295 = .ok (.iadd, 1) := by decide +kernel
theorem dw_1296 : decode code 1296 = .ok (.iaload, 1) := by decide +kernel
theorem dw_1297 : decode code 1297 = .ok (.invokevirtual 163, 3) := by decide +kernel
theorem dw_1300 : decode code 1300 = .ok (.if_icmp .eq 19, 3) := by decide +kernel
theorem dw_1303 : decode code 1303 = .ok (.iconst 0, 1) := by decide +kernel
theorem dw_1304 : decode code 1304 = .ok (.ireturn, 1) := by decide +kernel
theorem dw_1305 : decode code 1305 = .ok (.aload_n 1, 1) := by decide +kernel
theorem dw_1306 : decode code 1306 = .ok (.invokevirtual 164, 3) := by decide +kernel
theorem dw_1309 : decode code 1309 = .ok (.aload_n 2, 1) := by decide +kernel
theorem dw_1310 : decode code 1310 = .ok (.invokevirtual 168, 3) := by decide +kernel
theorem dw_1313 : decode code 1313 = .ok (.lcmp, 1) := by decide +kernel
theorem dw_1314 : decode code 1314 = .ok (.ifCond .eq 5, 3) := by decide +kernel
theorem dw_1317 : decode code 1317 = .ok (.iconst 0, 1) := by decide +kernel
theorem dw_1318 : decode code 1318 = .ok (.ireturn, 1) := by decide +kernel
theorem dw_1319 : decode code 1319 = .ok (.iinc 3 6, 3) := by decide +kernel
theorem dw_1322 : decode code 1322 = .ok (.goto (-1304), 3) := by decide +kernel
theorem dw_1325 : decode code 1325 = .ok (.iconst 1, 1) := by decide +kernel
theorem dw_1326 : decode code 1326 = .ok (.ireturn, 1) := by decide +kernel
theorem lg_cmp_self (x : Int64) : lg_cmp x x = 0 := by
  unfold lg_cmp
  simp
/-! THE CLAIM OUT OF ONE WALK OF THE LAW'S BODY. Your part is whole_start (and what it stands on); all else here is the same for every law, but numbers. -/
def R_law : String := "ShadowTheatreLaw"
def lw_P (b : Addr) (xs : List Int32) (args : Array Value) (s : State) : Prop := args = #[.ref b] ∧ s.IntsAt b xs ∧ xs.length ≤ 384 ∧ (Jvm.Cond.and given_1 narrow_1).before args s = true
def lw_Q (_ : Array Value) (s : State) (o : Outcome) (t : State) : Prop := o = .returned (some (.int 1)) ∧ Framed s o t [] 600000 7302250
def lw_Z (below : List Frame) (a : Array Value) (s : State) : State → Prop := fun t => ∃ o, t.status = .running ∧ Ended t below o ∧ lw_Q a s o t
/-- the law's own end, with 1 on the stack, nothing written that was there before, its room as the claim has it -/
theorem lw_ret {p : Program} {l : Launch} {e : Env} {s : State} {m : MethodId} {below : List Frame} {meth : Method} {c : Code} {b : Nat} (hx : p.tables.exec = Jvm.exec) (hb : c.code = code) (hr : meth.sig.returnType = ret) (hlocks : meth.locks = false) {pc : Nat} {H : Heap} {ls : Array Slot} (hdg : decode code pc = .ok (.ireturn, 1)) : W p l e room_1 s m #[Value.ref b] below meth c H [] 600000 7302250 (lw_Z below #[Value.ref b] s) (F0 m pc ls [.int 1]) := by
  intro T hT X
  obtain ⟨fs, hret, hrun, hended, hW, hframe⟩ := X.leave (v := some (.int 1)) (hlocks := hlocks) (fun h => by rw [hr] at h; cases h)
  have hmeth' : T.vm.method? m = some meth := X.method'
  refine ⟨T.setFrames fs, ?_, .returned (some (.int 1)), hrun, hended, rfl, ⟨_, rfl⟩, hW, hframe⟩
  jvm_step X.here [X.here.top, hx, hb, hdg, hmeth', hr, ret, narrow_b1]
  (try refine ⟨rfl, ?_⟩); (try refine ⟨rfl, ?_⟩)
  first | (intro acts; rw [hret _ acts rfl rfl rfl]) | rw [hret _ _ rfl rfl rfl]
  exact Steps.refl _
/-- what holds at the law's entry: the machine, the code, the tables' words (any of lw_tbl by 'hts w (by decide +kernel)'), the script of L ints xs at the cell b, what the Statement gives of the start (any of its parts by flat_of_before) -/
def lw_At (p : Program) (s : State) (m : MethodId) (meth : Method) (c : Code) (b L : Nat) (xs : Nat → Int32) : Prop :=
  p.tables.exec = Jvm.exec ∧ c.code = code ∧ meth.sig.returnType = ret ∧ c.maxLocals = 4 ∧ s.vm.findClass R_law = some m.cls ∧ (∀ w ∈ lw_tbl, w.before #[Value.ref b] s = true) ∧ va_X b L xs s s.heap ∧ b < s.heap.size ∧ meth.locks = false ∧ (Jvm.Cond.and given_1 narrow_1).before #[Value.ref b] s = true
section LAWC
variable {p : Program} {l : Launch} {e : Env} {s : State} {m : MethodId} {below : List Frame} {meth : Method} {c : Code} {Qf : State → Prop} {g : qw_Ad} {z : Nat} {aC aM : Nat → Nat} {b L i : Nat} {xs : Nat → Int32}
/-- what holds throughout the law's walk -/
def LC (p : Program) (s : State) (m : MethodId) (c : Code) (g : qw_Ad) (z : Nat) (aC : Nat → Nat) (b L : Nat) (xs : Nat → Int32) : Prop := nFr "ShadowTheatreLaw" code 4 g z p s m #[Value.ref b] c ∧ nEv aC z s s.heap ∧ va_X b L xs s s.heap ∧ b < s.heap.size ∧ (¬ z ≤ b) ∧ L ≤ 384
/-- behind a round of the loop -/
def LN (p : Program) (l : Launch) (e : Env) (s : State) (m : MethodId) (below : List Frame) (meth : Method) (c : Code) (Qf : State → Prop) (g : qw_Ad) (z : Nat) (aC aM : Nat → Nat) (b i : Nat) : Prop := ∀ (A : AS) (σC σM : qw_M) (H : Heap) (locs : List Loc) (lsA : Array Slot), KC σC A → KM σM A → nWd g z (nLW g aC aM σC σM) H → nSt z s H locs → lv_has lsA 4 [(3, .int (nI i)), (2, .ref (aM 0)), (1, .ref (aC 0)), (0, .ref b)] → W p l e room_1 s m #[Value.ref b] below meth c H locs 600000 7302250 Qf (F0 m 1319 lsA [])
theorem dcount {σ : qw_M} {A : AS} (h : KM σ A) (x : Int32) : qw_Mt qw_tw wM my_X12_count [.ref 0, .int x] σ (postM (do_count A x, A)) := mt_mono (d_count h x) (fun r σ h => ⟨h.1, h.2.2.2⟩)
theorem lwc_0 (C : LC p s m c g z aC b L xs) (hi : i + 6 ≤ L) {A : AS} {σC σM : qw_M} {H : Heap} {locs : List Loc} {lsA : Array Slot} (hC : KC σC A) (hM : KM σM A) (h : nWd g z (nLW g aC aM σC σM) H) (hS : nSt z s H locs) (hl : lv_has lsA 4 [(3, .int (nI i)), (2, .ref (aM 0)), (1, .ref (aC 0)), (0, .ref b)]) (kk : LN p l e s m below meth c Qf g z aC aM b i) : W p l e room_1 s m #[Value.ref b] below meth c H locs 600000 7302250 Qf (F0 m 196 lsA []) := by
  refine lv_aload_n C.1.1 C.1.2.1 dw_196 rfl (lv_at hl 2 rfl) ?_
  refine lv_aload_n C.1.1 C.1.2.1 dw_197 rfl (lv_at hl 3 rfl) ?_
  refine lv_iload_n C.1.1 C.1.2.1 dw_198 rfl (lv_at hl 0 rfl) ?_
  refine lv_iconst (v := nI 1) C.1.1 C.1.2.1 dw_199 rfl ?_
  refine lv_iadd C.1.1 C.1.2.1 dw_200 ?_
  refine va_sld C.1.1 C.1.2.1 C.2.2.1 C.2.2.2.1 C.2.2.2.2.1 hS (pk_in (i + 1) L (by omega) (nI_add i 1) (by have := C.2.2.2.2.2; omega)) dw_201 ?_
  refine lv_aload_n C.1.1 C.1.2.1 dw_202 rfl (lv_at hl 3 rfl) ?_
  refine lv_iload_n C.1.1 C.1.2.1 dw_203 rfl (lv_at hl 0 rfl) ?_
  refine lv_iconst (v := nI 2) C.1.1 C.1.2.1 dw_204 rfl ?_
  refine lv_iadd C.1.1 C.1.2.1 dw_205 ?_
  refine va_sld C.1.1 C.1.2.1 C.2.2.1 C.2.2.2.1 C.2.2.2.2.1 hS (pk_in (i + 2) L (by omega) (nI_add i 2) (by have := C.2.2.2.2.2; omega)) dw_206 ?_
  have ht := c_type hC (xs (nI i + nI 1).toNatClampNeg) (xs (nI i + nI 2).toNatClampNeg)
  refine n_lawC (rest := []) C.1 h hS C.2.1 ht (fun _ => rfl) (fun _ => rfl) rfl tz_431 tz_432 tz_433 tz_74 tz_434 ⟨by decide, by decide, (show (parseMethodDescriptor (qw_yn my_X11_type).desc).map (fun d => d.parameters.length) = some 2 by decide +kernel)⟩ ⟨(Nat.le_of_ble_eq_true rfl), (Nat.le_of_ble_eq_true rfl)⟩ ⟨(Nat.le_of_ble_eq_true rfl), (Nat.le_of_ble_eq_true rfl)⟩ hl.1 rfl (Nat.le_of_ble_eq_true rfl) dw_207 (fun σC1 H locs hC1 h hS => ?_)
  refine lv_aload_n C.1.1 C.1.2.1 dw_210 rfl (lv_at hl 1 rfl) ?_
  refine lv_aload_n C.1.1 C.1.2.1 dw_211 rfl (lv_at hl 3 rfl) ?_
  refine lv_iload_n C.1.1 C.1.2.1 dw_212 rfl (lv_at hl 0 rfl) ?_
  refine lv_iconst (v := nI 1) C.1.1 C.1.2.1 dw_213 rfl ?_
  refine lv_iadd C.1.1 C.1.2.1 dw_214 ?_
  refine va_sld C.1.1 C.1.2.1 C.2.2.1 C.2.2.2.1 C.2.2.2.2.1 hS (pk_in (i + 1) L (by omega) (nI_add i 1) (by have := C.2.2.2.2.2; omega)) dw_215 ?_
  refine lv_aload_n C.1.1 C.1.2.1 dw_216 rfl (lv_at hl 3 rfl) ?_
  refine lv_iload_n C.1.1 C.1.2.1 dw_217 rfl (lv_at hl 0 rfl) ?_
  refine lv_iconst (v := nI 2) C.1.1 C.1.2.1 dw_218 rfl ?_
  refine lv_iadd C.1.1 C.1.2.1 dw_219 ?_
  refine va_sld C.1.1 C.1.2.1 C.2.2.1 C.2.2.2.1 C.2.2.2.2.1 hS (pk_in (i + 2) L (by omega) (nI_add i 2) (by have := C.2.2.2.2.2; omega)) dw_220 ?_
  have ht := d_type hM (xs (nI i + nI 1).toNatClampNeg) (xs (nI i + nI 2).toNatClampNeg)
  refine n_lawM (rest := [.int _]) C.1 h hS ht (fun _ => rfl) (fun _ => rfl) rfl tz_1255 tz_1256 tz_1257 tz_87 tz_1258 ⟨by decide, by decide, (show (parseMethodDescriptor (qw_yn my_X12_type).desc).map (fun d => d.parameters.length) = some 2 by decide +kernel)⟩ ⟨(Nat.le_of_ble_eq_true rfl), (Nat.le_of_ble_eq_true rfl)⟩ ⟨(Nat.le_of_ble_eq_true rfl), (Nat.le_of_ble_eq_true rfl)⟩ hl.1 rfl (Nat.le_of_ble_eq_true rfl) dw_221 (fun σM1 H locs hM1 h hS => ?_)
  exact lv_icmp_eq C.1.1 C.1.2.1 dw_224 rfl (fun _ => kk _ _ _ _ _ _ hC1 hM1 h hS hl) (fun hn => absurd rfl hn)
theorem lwc_1 (C : LC p s m c g z aC b L xs) (hi : i + 6 ≤ L) {A : AS} {σC σM : qw_M} {H : Heap} {locs : List Loc} {lsA : Array Slot} (hC : KC σC A) (hM : KM σM A) (h : nWd g z (nLW g aC aM σC σM) H) (hS : nSt z s H locs) (hl : lv_has lsA 4 [(3, .int (nI i)), (2, .ref (aM 0)), (1, .ref (aC 0)), (0, .ref b)]) (kk : LN p l e s m below meth c Qf g z aC aM b i) : W p l e room_1 s m #[Value.ref b] below meth c H locs 600000 7302250 Qf (F0 m 229 lsA []) := by
  refine lv_aload_n C.1.1 C.1.2.1 dw_229 rfl (lv_at hl 2 rfl) ?_
  refine lv_aload_n C.1.1 C.1.2.1 dw_230 rfl (lv_at hl 3 rfl) ?_
  refine lv_iload_n C.1.1 C.1.2.1 dw_231 rfl (lv_at hl 0 rfl) ?_
  refine lv_iconst (v := nI 1) C.1.1 C.1.2.1 dw_232 rfl ?_
  refine lv_iadd C.1.1 C.1.2.1 dw_233 ?_
  refine va_sld C.1.1 C.1.2.1 C.2.2.1 C.2.2.2.1 C.2.2.2.2.1 hS (pk_in (i + 1) L (by omega) (nI_add i 1) (by have := C.2.2.2.2.2; omega)) dw_234 ?_
  have ht := c_wipe hC (xs (nI i + nI 1).toNatClampNeg)
  refine n_lawC (rest := []) C.1 h hS C.2.1 ht (fun _ => rfl) (fun _ => rfl) rfl tz_580 tz_581 tz_582 tz_74 tz_583 ⟨by decide, by decide, (show (parseMethodDescriptor (qw_yn my_X11_wipe).desc).map (fun d => d.parameters.length) = some 1 by decide +kernel)⟩ ⟨(Nat.le_of_ble_eq_true rfl), (Nat.le_of_ble_eq_true rfl)⟩ ⟨(Nat.le_of_ble_eq_true rfl), (Nat.le_of_ble_eq_true rfl)⟩ hl.1 rfl (Nat.le_of_ble_eq_true rfl) dw_235 (fun σC1 H locs hC1 h hS => ?_)
  refine lv_aload_n C.1.1 C.1.2.1 dw_238 rfl (lv_at hl 1 rfl) ?_
  refine lv_aload_n C.1.1 C.1.2.1 dw_239 rfl (lv_at hl 3 rfl) ?_
  refine lv_iload_n C.1.1 C.1.2.1 dw_240 rfl (lv_at hl 0 rfl) ?_
  refine lv_iconst (v := nI 1) C.1.1 C.1.2.1 dw_241 rfl ?_
  refine lv_iadd C.1.1 C.1.2.1 dw_242 ?_
  refine va_sld C.1.1 C.1.2.1 C.2.2.1 C.2.2.2.1 C.2.2.2.2.1 hS (pk_in (i + 1) L (by omega) (nI_add i 1) (by have := C.2.2.2.2.2; omega)) dw_243 ?_
  have ht := d_wipe hM (xs (nI i + nI 1).toNatClampNeg)
  refine n_lawM (rest := [.int _]) C.1 h hS ht (fun _ => rfl) (fun _ => rfl) rfl tz_1263 tz_1264 tz_1265 tz_87 tz_1266 ⟨by decide, by decide, (show (parseMethodDescriptor (qw_yn my_X12_wipe).desc).map (fun d => d.parameters.length) = some 1 by decide +kernel)⟩ ⟨(Nat.le_of_ble_eq_true rfl), (Nat.le_of_ble_eq_true rfl)⟩ ⟨(Nat.le_of_ble_eq_true rfl), (Nat.le_of_ble_eq_true rfl)⟩ hl.1 rfl (Nat.le_of_ble_eq_true rfl) dw_244 (fun σM1 H locs hM1 h hS => ?_)
  exact lv_icmp_eq C.1.1 C.1.2.1 dw_247 rfl (fun _ => kk _ _ _ _ _ _ hC1 hM1 h hS hl) (fun hn => absurd rfl hn)
theorem lwc_2 (C : LC p s m c g z aC b L xs) (hi : i + 6 ≤ L) {A : AS} {σC σM : qw_M} {H : Heap} {locs : List Loc} {lsA : Array Slot} (hC : KC σC A) (hM : KM σM A) (h : nWd g z (nLW g aC aM σC σM) H) (hS : nSt z s H locs) (hl : lv_has lsA 4 [(3, .int (nI i)), (2, .ref (aM 0)), (1, .ref (aC 0)), (0, .ref b)]) (kk : LN p l e s m below meth c Qf g z aC aM b i) : W p l e room_1 s m #[Value.ref b] below meth c H locs 600000 7302250 Qf (F0 m 252 lsA []) := by
  refine lv_aload_n C.1.1 C.1.2.1 dw_252 rfl (lv_at hl 2 rfl) ?_
  refine lv_aload_n C.1.1 C.1.2.1 dw_253 rfl (lv_at hl 3 rfl) ?_
  refine lv_iload_n C.1.1 C.1.2.1 dw_254 rfl (lv_at hl 0 rfl) ?_
  refine lv_iconst (v := nI 1) C.1.1 C.1.2.1 dw_255 rfl ?_
  refine lv_iadd C.1.1 C.1.2.1 dw_256 ?_
  refine va_sld C.1.1 C.1.2.1 C.2.2.1 C.2.2.2.1 C.2.2.2.2.1 hS (pk_in (i + 1) L (by omega) (nI_add i 1) (by have := C.2.2.2.2.2; omega)) dw_257 ?_
  have ht := c_undo hC (xs (nI i + nI 1).toNatClampNeg)
  refine n_lawC (rest := []) C.1 h hS C.2.1 ht (fun _ => rfl) (fun _ => rfl) rfl tz_588 tz_589 tz_590 tz_74 tz_591 ⟨by decide, by decide, (show (parseMethodDescriptor (qw_yn my_X11_undo).desc).map (fun d => d.parameters.length) = some 1 by decide +kernel)⟩ ⟨(Nat.le_of_ble_eq_true rfl), (Nat.le_of_ble_eq_true rfl)⟩ ⟨(Nat.le_of_ble_eq_true rfl), (Nat.le_of_ble_eq_true rfl)⟩ hl.1 rfl (Nat.le_of_ble_eq_true rfl) dw_258 (fun σC1 H locs hC1 h hS => ?_)
  refine lv_aload_n C.1.1 C.1.2.1 dw_261 rfl (lv_at hl 1 rfl) ?_
  refine lv_aload_n C.1.1 C.1.2.1 dw_262 rfl (lv_at hl 3 rfl) ?_
  refine lv_iload_n C.1.1 C.1.2.1 dw_263 rfl (lv_at hl 0 rfl) ?_
  refine lv_iconst (v := nI 1) C.1.1 C.1.2.1 dw_264 rfl ?_
  refine lv_iadd C.1.1 C.1.2.1 dw_265 ?_
  refine va_sld C.1.1 C.1.2.1 C.2.2.1 C.2.2.2.1 C.2.2.2.2.1 hS (pk_in (i + 1) L (by omega) (nI_add i 1) (by have := C.2.2.2.2.2; omega)) dw_266 ?_
  have ht := d_undo hM (xs (nI i + nI 1).toNatClampNeg)
  refine n_lawM (rest := [.int _]) C.1 h hS ht (fun _ => rfl) (fun _ => rfl) rfl tz_1267 tz_1268 tz_1269 tz_87 tz_1270 ⟨by decide, by decide, (show (parseMethodDescriptor (qw_yn my_X12_undo).desc).map (fun d => d.parameters.length) = some 1 by decide +kernel)⟩ ⟨(Nat.le_of_ble_eq_true rfl), (Nat.le_of_ble_eq_true rfl)⟩ ⟨(Nat.le_of_ble_eq_true rfl), (Nat.le_of_ble_eq_true rfl)⟩ hl.1 rfl (Nat.le_of_ble_eq_true rfl) dw_267 (fun σM1 H locs hM1 h hS => ?_)
  exact lv_icmp_eq C.1.1 C.1.2.1 dw_270 rfl (fun _ => kk _ _ _ _ _ _ hC1 hM1 h hS hl) (fun hn => absurd rfl hn)
theorem lwc_3 (C : LC p s m c g z aC b L xs) (hi : i + 6 ≤ L) {A : AS} {σC σM : qw_M} {H : Heap} {locs : List Loc} {lsA : Array Slot} (hC : KC σC A) (hM : KM σM A) (h : nWd g z (nLW g aC aM σC σM) H) (hS : nSt z s H locs) (hl : lv_has lsA 4 [(3, .int (nI i)), (2, .ref (aM 0)), (1, .ref (aC 0)), (0, .ref b)]) (kk : LN p l e s m below meth c Qf g z aC aM b i) : W p l e room_1 s m #[Value.ref b] below meth c H locs 600000 7302250 Qf (F0 m 275 lsA []) := by
  refine lv_aload_n C.1.1 C.1.2.1 dw_275 rfl (lv_at hl 2 rfl) ?_
  refine lv_aload_n C.1.1 C.1.2.1 dw_276 rfl (lv_at hl 3 rfl) ?_
  refine lv_iload_n C.1.1 C.1.2.1 dw_277 rfl (lv_at hl 0 rfl) ?_
  refine lv_iconst (v := nI 1) C.1.1 C.1.2.1 dw_278 rfl ?_
  refine lv_iadd C.1.1 C.1.2.1 dw_279 ?_
  refine va_sld C.1.1 C.1.2.1 C.2.2.1 C.2.2.2.1 C.2.2.2.2.1 hS (pk_in (i + 1) L (by omega) (nI_add i 1) (by have := C.2.2.2.2.2; omega)) dw_280 ?_
  have ht := c_fault hC (xs (nI i + nI 1).toNatClampNeg)
  refine n_lawC (rest := []) C.1 h hS C.2.1 ht (fun _ => rfl) (fun _ => rfl) rfl tz_596 tz_597 tz_598 tz_74 tz_599 ⟨by decide, by decide, (show (parseMethodDescriptor (qw_yn my_X11_fault).desc).map (fun d => d.parameters.length) = some 1 by decide +kernel)⟩ ⟨(Nat.le_of_ble_eq_true rfl), (Nat.le_of_ble_eq_true rfl)⟩ ⟨(Nat.le_of_ble_eq_true rfl), (Nat.le_of_ble_eq_true rfl)⟩ hl.1 rfl (Nat.le_of_ble_eq_true rfl) dw_281 (fun σC1 H locs hC1 h hS => ?_)
  refine lv_aload_n C.1.1 C.1.2.1 dw_284 rfl (lv_at hl 1 rfl) ?_
  refine lv_aload_n C.1.1 C.1.2.1 dw_285 rfl (lv_at hl 3 rfl) ?_
  refine lv_iload_n C.1.1 C.1.2.1 dw_286 rfl (lv_at hl 0 rfl) ?_
  refine lv_iconst (v := nI 1) C.1.1 C.1.2.1 dw_287 rfl ?_
  refine lv_iadd C.1.1 C.1.2.1 dw_288 ?_
  refine va_sld C.1.1 C.1.2.1 C.2.2.1 C.2.2.2.1 C.2.2.2.2.1 hS (pk_in (i + 1) L (by omega) (nI_add i 1) (by have := C.2.2.2.2.2; omega)) dw_289 ?_
  have ht := d_fault hM (xs (nI i + nI 1).toNatClampNeg)
  refine n_lawM (rest := [.int _]) C.1 h hS ht (fun _ => rfl) (fun _ => rfl) rfl tz_1271 tz_1272 tz_1273 tz_87 tz_1274 ⟨by decide, by decide, (show (parseMethodDescriptor (qw_yn my_X12_fault).desc).map (fun d => d.parameters.length) = some 1 by decide +kernel)⟩ ⟨(Nat.le_of_ble_eq_true rfl), (Nat.le_of_ble_eq_true rfl)⟩ ⟨(Nat.le_of_ble_eq_true rfl), (Nat.le_of_ble_eq_true rfl)⟩ hl.1 rfl (Nat.le_of_ble_eq_true rfl) dw_290 (fun σM1 H locs hM1 h hS => ?_)
  exact lv_icmp_eq C.1.1 C.1.2.1 dw_293 rfl (fun _ => kk _ _ _ _ _ _ hC1 hM1 h hS hl) (fun hn => absurd rfl hn)
theorem lwc_4 (C : LC p s m c g z aC b L xs) (hi : i + 6 ≤ L) {A : AS} {σC σM : qw_M} {H : Heap} {locs : List Loc} {lsA : Array Slot} (hC : KC σC A) (hM : KM σM A) (h : nWd g z (nLW g aC aM σC σM) H) (hS : nSt z s H locs) (hl : lv_has lsA 4 [(3, .int (nI i)), (2, .ref (aM 0)), (1, .ref (aC 0)), (0, .ref b)]) (kk : LN p l e s m below meth c Qf g z aC aM b i) : W p l e room_1 s m #[Value.ref b] below meth c H locs 600000 7302250 Qf (F0 m 298 lsA []) := by
  refine lv_aload_n C.1.1 C.1.2.1 dw_298 rfl (lv_at hl 2 rfl) ?_
  refine lv_aload_n C.1.1 C.1.2.1 dw_299 rfl (lv_at hl 3 rfl) ?_
  refine lv_iload_n C.1.1 C.1.2.1 dw_300 rfl (lv_at hl 0 rfl) ?_
  refine lv_iconst (v := nI 1) C.1.1 C.1.2.1 dw_301 rfl ?_
  refine lv_iadd C.1.1 C.1.2.1 dw_302 ?_
  refine va_sld C.1.1 C.1.2.1 C.2.2.1 C.2.2.2.1 C.2.2.2.2.1 hS (pk_in (i + 1) L (by omega) (nI_add i 1) (by have := C.2.2.2.2.2; omega)) dw_303 ?_
  refine lv_aload_n C.1.1 C.1.2.1 dw_304 rfl (lv_at hl 3 rfl) ?_
  refine lv_iload_n C.1.1 C.1.2.1 dw_305 rfl (lv_at hl 0 rfl) ?_
  refine lv_iconst (v := nI 2) C.1.1 C.1.2.1 dw_306 rfl ?_
  refine lv_iadd C.1.1 C.1.2.1 dw_307 ?_
  refine va_sld C.1.1 C.1.2.1 C.2.2.1 C.2.2.2.1 C.2.2.2.2.1 hS (pk_in (i + 2) L (by omega) (nI_add i 2) (by have := C.2.2.2.2.2; omega)) dw_308 ?_
  have ht := c_figure hC (xs (nI i + nI 1).toNatClampNeg) (xs (nI i + nI 2).toNatClampNeg)
  refine n_lawC (rest := []) C.1 h hS C.2.1 ht (fun _ => rfl) (fun _ => rfl) rfl tz_600 tz_601 tz_602 tz_74 tz_603 ⟨by decide, by decide, (show (parseMethodDescriptor (qw_yn my_X11_figure).desc).map (fun d => d.parameters.length) = some 2 by decide +kernel)⟩ ⟨(Nat.le_of_ble_eq_true rfl), (Nat.le_of_ble_eq_true rfl)⟩ ⟨(Nat.le_of_ble_eq_true rfl), (Nat.le_of_ble_eq_true rfl)⟩ hl.1 rfl (Nat.le_of_ble_eq_true rfl) dw_309 (fun σC1 H locs hC1 h hS => ?_)
  refine lv_aload_n C.1.1 C.1.2.1 dw_312 rfl (lv_at hl 1 rfl) ?_
  refine lv_aload_n C.1.1 C.1.2.1 dw_313 rfl (lv_at hl 3 rfl) ?_
  refine lv_iload_n C.1.1 C.1.2.1 dw_314 rfl (lv_at hl 0 rfl) ?_
  refine lv_iconst (v := nI 1) C.1.1 C.1.2.1 dw_315 rfl ?_
  refine lv_iadd C.1.1 C.1.2.1 dw_316 ?_
  refine va_sld C.1.1 C.1.2.1 C.2.2.1 C.2.2.2.1 C.2.2.2.2.1 hS (pk_in (i + 1) L (by omega) (nI_add i 1) (by have := C.2.2.2.2.2; omega)) dw_317 ?_
  refine lv_aload_n C.1.1 C.1.2.1 dw_318 rfl (lv_at hl 3 rfl) ?_
  refine lv_iload_n C.1.1 C.1.2.1 dw_319 rfl (lv_at hl 0 rfl) ?_
  refine lv_iconst (v := nI 2) C.1.1 C.1.2.1 dw_320 rfl ?_
  refine lv_iadd C.1.1 C.1.2.1 dw_321 ?_
  refine va_sld C.1.1 C.1.2.1 C.2.2.1 C.2.2.2.1 C.2.2.2.2.1 hS (pk_in (i + 2) L (by omega) (nI_add i 2) (by have := C.2.2.2.2.2; omega)) dw_322 ?_
  have ht := d_figure hM (xs (nI i + nI 1).toNatClampNeg) (xs (nI i + nI 2).toNatClampNeg)
  refine n_lawM (rest := [.int _]) C.1 h hS ht (fun _ => rfl) (fun _ => rfl) rfl tz_1315 tz_1316 tz_1317 tz_87 tz_1318 ⟨by decide, by decide, (show (parseMethodDescriptor (qw_yn my_X12_figure).desc).map (fun d => d.parameters.length) = some 2 by decide +kernel)⟩ ⟨(Nat.le_of_ble_eq_true rfl), (Nat.le_of_ble_eq_true rfl)⟩ ⟨(Nat.le_of_ble_eq_true rfl), (Nat.le_of_ble_eq_true rfl)⟩ hl.1 rfl (Nat.le_of_ble_eq_true rfl) dw_323 (fun σM1 H locs hM1 h hS => ?_)
  exact lv_icmp_eq C.1.1 C.1.2.1 dw_326 rfl (fun _ => kk _ _ _ _ _ _ hC1 hM1 h hS hl) (fun hn => absurd rfl hn)
theorem lwc_5 (C : LC p s m c g z aC b L xs) (hi : i + 6 ≤ L) {A : AS} {σC σM : qw_M} {H : Heap} {locs : List Loc} {lsA : Array Slot} (hC : KC σC A) (hM : KM σM A) (h : nWd g z (nLW g aC aM σC σM) H) (hS : nSt z s H locs) (hl : lv_has lsA 4 [(3, .int (nI i)), (2, .ref (aM 0)), (1, .ref (aC 0)), (0, .ref b)]) (kk : LN p l e s m below meth c Qf g z aC aM b i) : W p l e room_1 s m #[Value.ref b] below meth c H locs 600000 7302250 Qf (F0 m 331 lsA []) := by
  refine lv_aload_n C.1.1 C.1.2.1 dw_331 rfl (lv_at hl 2 rfl) ?_
  refine lv_aload_n C.1.1 C.1.2.1 dw_332 rfl (lv_at hl 3 rfl) ?_
  refine lv_iload_n C.1.1 C.1.2.1 dw_333 rfl (lv_at hl 0 rfl) ?_
  refine lv_iconst (v := nI 1) C.1.1 C.1.2.1 dw_334 rfl ?_
  refine lv_iadd C.1.1 C.1.2.1 dw_335 ?_
  refine va_sld C.1.1 C.1.2.1 C.2.2.1 C.2.2.2.1 C.2.2.2.2.1 hS (pk_in (i + 1) L (by omega) (nI_add i 1) (by have := C.2.2.2.2.2; omega)) dw_336 ?_
  refine lv_aload_n C.1.1 C.1.2.1 dw_337 rfl (lv_at hl 3 rfl) ?_
  refine lv_iload_n C.1.1 C.1.2.1 dw_338 rfl (lv_at hl 0 rfl) ?_
  refine lv_iconst (v := nI 2) C.1.1 C.1.2.1 dw_339 rfl ?_
  refine lv_iadd C.1.1 C.1.2.1 dw_340 ?_
  refine va_sld C.1.1 C.1.2.1 C.2.2.1 C.2.2.2.1 C.2.2.2.2.1 hS (pk_in (i + 2) L (by omega) (nI_add i 2) (by have := C.2.2.2.2.2; omega)) dw_341 ?_
  have ht := c_cue hC (xs (nI i + nI 1).toNatClampNeg) (xs (nI i + nI 2).toNatClampNeg)
  refine n_lawC (rest := []) C.1 h hS C.2.1 ht (fun _ => rfl) (fun _ => rfl) rfl tz_613 tz_614 tz_615 tz_74 tz_616 ⟨by decide, by decide, (show (parseMethodDescriptor (qw_yn my_X11_cue).desc).map (fun d => d.parameters.length) = some 2 by decide +kernel)⟩ ⟨(Nat.le_of_ble_eq_true rfl), (Nat.le_of_ble_eq_true rfl)⟩ ⟨(Nat.le_of_ble_eq_true rfl), (Nat.le_of_ble_eq_true rfl)⟩ hl.1 rfl (Nat.le_of_ble_eq_true rfl) dw_342 (fun σC1 H locs hC1 h hS => ?_)
  refine lv_aload_n C.1.1 C.1.2.1 dw_345 rfl (lv_at hl 1 rfl) ?_
  refine lv_aload_n C.1.1 C.1.2.1 dw_346 rfl (lv_at hl 3 rfl) ?_
  refine lv_iload_n C.1.1 C.1.2.1 dw_347 rfl (lv_at hl 0 rfl) ?_
  refine lv_iconst (v := nI 1) C.1.1 C.1.2.1 dw_348 rfl ?_
  refine lv_iadd C.1.1 C.1.2.1 dw_349 ?_
  refine va_sld C.1.1 C.1.2.1 C.2.2.1 C.2.2.2.1 C.2.2.2.2.1 hS (pk_in (i + 1) L (by omega) (nI_add i 1) (by have := C.2.2.2.2.2; omega)) dw_350 ?_
  refine lv_aload_n C.1.1 C.1.2.1 dw_351 rfl (lv_at hl 3 rfl) ?_
  refine lv_iload_n C.1.1 C.1.2.1 dw_352 rfl (lv_at hl 0 rfl) ?_
  refine lv_iconst (v := nI 2) C.1.1 C.1.2.1 dw_353 rfl ?_
  refine lv_iadd C.1.1 C.1.2.1 dw_354 ?_
  refine va_sld C.1.1 C.1.2.1 C.2.2.1 C.2.2.2.1 C.2.2.2.2.1 hS (pk_in (i + 2) L (by omega) (nI_add i 2) (by have := C.2.2.2.2.2; omega)) dw_355 ?_
  have ht := d_cue hM (xs (nI i + nI 1).toNatClampNeg) (xs (nI i + nI 2).toNatClampNeg)
  refine n_lawM (rest := [.int _]) C.1 h hS ht (fun _ => rfl) (fun _ => rfl) rfl tz_1328 tz_1329 tz_1330 tz_87 tz_1331 ⟨by decide, by decide, (show (parseMethodDescriptor (qw_yn my_X12_cue).desc).map (fun d => d.parameters.length) = some 2 by decide +kernel)⟩ ⟨(Nat.le_of_ble_eq_true rfl), (Nat.le_of_ble_eq_true rfl)⟩ ⟨(Nat.le_of_ble_eq_true rfl), (Nat.le_of_ble_eq_true rfl)⟩ hl.1 rfl (Nat.le_of_ble_eq_true rfl) dw_356 (fun σM1 H locs hM1 h hS => ?_)
  exact lv_icmp_eq C.1.1 C.1.2.1 dw_359 rfl (fun _ => kk _ _ _ _ _ _ hC1 hM1 h hS hl) (fun hn => absurd rfl hn)
theorem lwc_6 (C : LC p s m c g z aC b L xs) (hi : i + 6 ≤ L) {A : AS} {σC σM : qw_M} {H : Heap} {locs : List Loc} {lsA : Array Slot} (hC : KC σC A) (hM : KM σM A) (h : nWd g z (nLW g aC aM σC σM) H) (hS : nSt z s H locs) (hl : lv_has lsA 4 [(3, .int (nI i)), (2, .ref (aM 0)), (1, .ref (aC 0)), (0, .ref b)]) (kk : LN p l e s m below meth c Qf g z aC aM b i) : W p l e room_1 s m #[Value.ref b] below meth c H locs 600000 7302250 Qf (F0 m 364 lsA []) := by
  refine lv_aload_n C.1.1 C.1.2.1 dw_364 rfl (lv_at hl 2 rfl) ?_
  refine lv_aload_n C.1.1 C.1.2.1 dw_365 rfl (lv_at hl 3 rfl) ?_
  refine lv_iload_n C.1.1 C.1.2.1 dw_366 rfl (lv_at hl 0 rfl) ?_
  refine lv_iconst (v := nI 1) C.1.1 C.1.2.1 dw_367 rfl ?_
  refine lv_iadd C.1.1 C.1.2.1 dw_368 ?_
  refine va_sld C.1.1 C.1.2.1 C.2.2.1 C.2.2.2.1 C.2.2.2.2.1 hS (pk_in (i + 1) L (by omega) (nI_add i 1) (by have := C.2.2.2.2.2; omega)) dw_369 ?_
  have ht := c_picture hC (xs (nI i + nI 1).toNatClampNeg)
  refine n_lawC (rest := []) C.1 h hS C.2.1 ht (fun _ => rfl) (fun _ => rfl) rfl tz_625 tz_626 tz_627 tz_74 tz_628 ⟨by decide, by decide, (show (parseMethodDescriptor (qw_yn my_X11_picture).desc).map (fun d => d.parameters.length) = some 1 by decide +kernel)⟩ ⟨(Nat.le_of_ble_eq_true rfl), (Nat.le_of_ble_eq_true rfl)⟩ ⟨(Nat.le_of_ble_eq_true rfl), (Nat.le_of_ble_eq_true rfl)⟩ hl.1 rfl (Nat.le_of_ble_eq_true rfl) dw_370 (fun σC1 H locs hC1 h hS => ?_)
  refine lv_aload_n C.1.1 C.1.2.1 dw_373 rfl (lv_at hl 1 rfl) ?_
  refine lv_aload_n C.1.1 C.1.2.1 dw_374 rfl (lv_at hl 3 rfl) ?_
  refine lv_iload_n C.1.1 C.1.2.1 dw_375 rfl (lv_at hl 0 rfl) ?_
  refine lv_iconst (v := nI 1) C.1.1 C.1.2.1 dw_376 rfl ?_
  refine lv_iadd C.1.1 C.1.2.1 dw_377 ?_
  refine va_sld C.1.1 C.1.2.1 C.2.2.1 C.2.2.2.1 C.2.2.2.2.1 hS (pk_in (i + 1) L (by omega) (nI_add i 1) (by have := C.2.2.2.2.2; omega)) dw_378 ?_
  have ht := d_picture hM (xs (nI i + nI 1).toNatClampNeg)
  refine n_lawM (rest := [.int _]) C.1 h hS ht (fun _ => rfl) (fun _ => rfl) rfl tz_1343 tz_1344 tz_1345 tz_87 tz_1346 ⟨by decide, by decide, (show (parseMethodDescriptor (qw_yn my_X12_picture).desc).map (fun d => d.parameters.length) = some 1 by decide +kernel)⟩ ⟨(Nat.le_of_ble_eq_true rfl), (Nat.le_of_ble_eq_true rfl)⟩ ⟨(Nat.le_of_ble_eq_true rfl), (Nat.le_of_ble_eq_true rfl)⟩ hl.1 rfl (Nat.le_of_ble_eq_true rfl) dw_379 (fun σM1 H locs hM1 h hS => ?_)
  exact lv_icmp_eq C.1.1 C.1.2.1 dw_382 rfl (fun _ => kk _ _ _ _ _ _ hC1 hM1 h hS hl) (fun hn => absurd rfl hn)
theorem lwc_7 (C : LC p s m c g z aC b L xs) (hi : i + 6 ≤ L) {A : AS} {σC σM : qw_M} {H : Heap} {locs : List Loc} {lsA : Array Slot} (hC : KC σC A) (hM : KM σM A) (h : nWd g z (nLW g aC aM σC σM) H) (hS : nSt z s H locs) (hl : lv_has lsA 4 [(3, .int (nI i)), (2, .ref (aM 0)), (1, .ref (aC 0)), (0, .ref b)]) (kk : LN p l e s m below meth c Qf g z aC aM b i) : W p l e room_1 s m #[Value.ref b] below meth c H locs 600000 7302250 Qf (F0 m 387 lsA []) := by
  refine lv_aload_n C.1.1 C.1.2.1 dw_387 rfl (lv_at hl 2 rfl) ?_
  refine lv_aload_n C.1.1 C.1.2.1 dw_388 rfl (lv_at hl 3 rfl) ?_
  refine lv_iload_n C.1.1 C.1.2.1 dw_389 rfl (lv_at hl 0 rfl) ?_
  refine lv_iconst (v := nI 1) C.1.1 C.1.2.1 dw_390 rfl ?_
  refine lv_iadd C.1.1 C.1.2.1 dw_391 ?_
  refine va_sld C.1.1 C.1.2.1 C.2.2.1 C.2.2.2.1 C.2.2.2.2.1 hS (pk_in (i + 1) L (by omega) (nI_add i 1) (by have := C.2.2.2.2.2; omega)) dw_392 ?_
  have ht := c_lamp hC (xs (nI i + nI 1).toNatClampNeg)
  refine n_lawC (rest := []) C.1 h hS C.2.1 ht (fun _ => rfl) (fun _ => rfl) rfl tz_637 tz_638 tz_639 tz_74 tz_640 ⟨by decide, by decide, (show (parseMethodDescriptor (qw_yn my_X11_lamp).desc).map (fun d => d.parameters.length) = some 1 by decide +kernel)⟩ ⟨(Nat.le_of_ble_eq_true rfl), (Nat.le_of_ble_eq_true rfl)⟩ ⟨(Nat.le_of_ble_eq_true rfl), (Nat.le_of_ble_eq_true rfl)⟩ hl.1 rfl (Nat.le_of_ble_eq_true rfl) dw_393 (fun σC1 H locs hC1 h hS => ?_)
  refine lv_aload_n C.1.1 C.1.2.1 dw_396 rfl (lv_at hl 1 rfl) ?_
  refine lv_aload_n C.1.1 C.1.2.1 dw_397 rfl (lv_at hl 3 rfl) ?_
  refine lv_iload_n C.1.1 C.1.2.1 dw_398 rfl (lv_at hl 0 rfl) ?_
  refine lv_iconst (v := nI 1) C.1.1 C.1.2.1 dw_399 rfl ?_
  refine lv_iadd C.1.1 C.1.2.1 dw_400 ?_
  refine va_sld C.1.1 C.1.2.1 C.2.2.1 C.2.2.2.1 C.2.2.2.2.1 hS (pk_in (i + 1) L (by omega) (nI_add i 1) (by have := C.2.2.2.2.2; omega)) dw_401 ?_
  have ht := d_lamp hM (xs (nI i + nI 1).toNatClampNeg)
  refine n_lawM (rest := [.int _]) C.1 h hS ht (fun _ => rfl) (fun _ => rfl) rfl tz_1351 tz_1352 tz_1353 tz_87 tz_1354 ⟨by decide, by decide, (show (parseMethodDescriptor (qw_yn my_X12_lamp).desc).map (fun d => d.parameters.length) = some 1 by decide +kernel)⟩ ⟨(Nat.le_of_ble_eq_true rfl), (Nat.le_of_ble_eq_true rfl)⟩ ⟨(Nat.le_of_ble_eq_true rfl), (Nat.le_of_ble_eq_true rfl)⟩ hl.1 rfl (Nat.le_of_ble_eq_true rfl) dw_402 (fun σM1 H locs hM1 h hS => ?_)
  exact lv_icmp_eq C.1.1 C.1.2.1 dw_405 rfl (fun _ => kk _ _ _ _ _ _ hC1 hM1 h hS hl) (fun hn => absurd rfl hn)
theorem lwc_8 (C : LC p s m c g z aC b L xs) (hi : i + 6 ≤ L) {A : AS} {σC σM : qw_M} {H : Heap} {locs : List Loc} {lsA : Array Slot} (hC : KC σC A) (hM : KM σM A) (h : nWd g z (nLW g aC aM σC σM) H) (hS : nSt z s H locs) (hl : lv_has lsA 4 [(3, .int (nI i)), (2, .ref (aM 0)), (1, .ref (aC 0)), (0, .ref b)]) (kk : LN p l e s m below meth c Qf g z aC aM b i) : W p l e room_1 s m #[Value.ref b] below meth c H locs 600000 7302250 Qf (F0 m 410 lsA []) := by
  refine lv_aload_n C.1.1 C.1.2.1 dw_410 rfl (lv_at hl 2 rfl) ?_
  refine lv_aload_n C.1.1 C.1.2.1 dw_411 rfl (lv_at hl 3 rfl) ?_
  refine lv_iload_n C.1.1 C.1.2.1 dw_412 rfl (lv_at hl 0 rfl) ?_
  refine lv_iconst (v := nI 1) C.1.1 C.1.2.1 dw_413 rfl ?_
  refine lv_iadd C.1.1 C.1.2.1 dw_414 ?_
  refine va_sld C.1.1 C.1.2.1 C.2.2.1 C.2.2.2.1 C.2.2.2.2.1 hS (pk_in (i + 1) L (by omega) (nI_add i 1) (by have := C.2.2.2.2.2; omega)) dw_415 ?_
  have ht := c_flicker hC (xs (nI i + nI 1).toNatClampNeg)
  refine n_lawC (rest := []) C.1 h hS C.2.1 ht (fun _ => rfl) (fun _ => rfl) rfl tz_641 tz_642 tz_643 tz_74 tz_644 ⟨by decide, by decide, (show (parseMethodDescriptor (qw_yn my_X11_flicker).desc).map (fun d => d.parameters.length) = some 1 by decide +kernel)⟩ ⟨(Nat.le_of_ble_eq_true rfl), (Nat.le_of_ble_eq_true rfl)⟩ ⟨(Nat.le_of_ble_eq_true rfl), (Nat.le_of_ble_eq_true rfl)⟩ hl.1 rfl (Nat.le_of_ble_eq_true rfl) dw_416 (fun σC1 H locs hC1 h hS => ?_)
  refine lv_aload_n C.1.1 C.1.2.1 dw_419 rfl (lv_at hl 1 rfl) ?_
  refine lv_aload_n C.1.1 C.1.2.1 dw_420 rfl (lv_at hl 3 rfl) ?_
  refine lv_iload_n C.1.1 C.1.2.1 dw_421 rfl (lv_at hl 0 rfl) ?_
  refine lv_iconst (v := nI 1) C.1.1 C.1.2.1 dw_422 rfl ?_
  refine lv_iadd C.1.1 C.1.2.1 dw_423 ?_
  refine va_sld C.1.1 C.1.2.1 C.2.2.1 C.2.2.2.1 C.2.2.2.2.1 hS (pk_in (i + 1) L (by omega) (nI_add i 1) (by have := C.2.2.2.2.2; omega)) dw_424 ?_
  have ht := d_flicker hM (xs (nI i + nI 1).toNatClampNeg)
  refine n_lawM (rest := [.int _]) C.1 h hS ht (fun _ => rfl) (fun _ => rfl) rfl tz_1355 tz_1356 tz_1357 tz_87 tz_1358 ⟨by decide, by decide, (show (parseMethodDescriptor (qw_yn my_X12_flicker).desc).map (fun d => d.parameters.length) = some 1 by decide +kernel)⟩ ⟨(Nat.le_of_ble_eq_true rfl), (Nat.le_of_ble_eq_true rfl)⟩ ⟨(Nat.le_of_ble_eq_true rfl), (Nat.le_of_ble_eq_true rfl)⟩ hl.1 rfl (Nat.le_of_ble_eq_true rfl) dw_425 (fun σM1 H locs hM1 h hS => ?_)
  exact lv_icmp_eq C.1.1 C.1.2.1 dw_428 rfl (fun _ => kk _ _ _ _ _ _ hC1 hM1 h hS hl) (fun hn => absurd rfl hn)
theorem lwc_9 (C : LC p s m c g z aC b L xs) (hi : i + 6 ≤ L) {A : AS} {σC σM : qw_M} {H : Heap} {locs : List Loc} {lsA : Array Slot} (hC : KC σC A) (hM : KM σM A) (h : nWd g z (nLW g aC aM σC σM) H) (hS : nSt z s H locs) (hl : lv_has lsA 4 [(3, .int (nI i)), (2, .ref (aM 0)), (1, .ref (aC 0)), (0, .ref b)]) (kk : LN p l e s m below meth c Qf g z aC aM b i) : W p l e room_1 s m #[Value.ref b] below meth c H locs 600000 7302250 Qf (F0 m 433 lsA []) := by
  refine lv_aload_n C.1.1 C.1.2.1 dw_433 rfl (lv_at hl 2 rfl) ?_
  have ht := c_back hC 
  refine n_lawC (rest := []) C.1 h hS C.2.1 ht (fun _ => rfl) (fun _ => rfl) rfl tz_645 tz_646 tz_647 tz_74 tz_648 ⟨by decide, by decide, (show (parseMethodDescriptor (qw_yn my_X11_back).desc).map (fun d => d.parameters.length) = some 0 by decide +kernel)⟩ ⟨(Nat.le_of_ble_eq_true rfl), (Nat.le_of_ble_eq_true rfl)⟩ ⟨(Nat.le_of_ble_eq_true rfl), (Nat.le_of_ble_eq_true rfl)⟩ hl.1 rfl (Nat.le_of_ble_eq_true rfl) dw_434 (fun σC1 H locs hC1 h hS => ?_)
  refine lv_aload_n C.1.1 C.1.2.1 dw_437 rfl (lv_at hl 1 rfl) ?_
  have ht := d_back hM 
  refine n_lawM (rest := [.int _]) C.1 h hS ht (fun _ => rfl) (fun _ => rfl) rfl tz_1359 tz_1360 tz_1361 tz_87 tz_1362 ⟨by decide, by decide, (show (parseMethodDescriptor (qw_yn my_X12_back).desc).map (fun d => d.parameters.length) = some 0 by decide +kernel)⟩ ⟨(Nat.le_of_ble_eq_true rfl), (Nat.le_of_ble_eq_true rfl)⟩ ⟨(Nat.le_of_ble_eq_true rfl), (Nat.le_of_ble_eq_true rfl)⟩ hl.1 rfl (Nat.le_of_ble_eq_true rfl) dw_438 (fun σM1 H locs hM1 h hS => ?_)
  exact lv_icmp_eq C.1.1 C.1.2.1 dw_441 rfl (fun _ => kk _ _ _ _ _ _ hC1 hM1 h hS hl) (fun hn => absurd rfl hn)
theorem lwc_10 (C : LC p s m c g z aC b L xs) (hi : i + 6 ≤ L) {A : AS} {σC σM : qw_M} {H : Heap} {locs : List Loc} {lsA : Array Slot} (hC : KC σC A) (hM : KM σM A) (h : nWd g z (nLW g aC aM σC σM) H) (hS : nSt z s H locs) (hl : lv_has lsA 4 [(3, .int (nI i)), (2, .ref (aM 0)), (1, .ref (aC 0)), (0, .ref b)]) (kk : LN p l e s m below meth c Qf g z aC aM b i) : W p l e room_1 s m #[Value.ref b] below meth c H locs 600000 7302250 Qf (F0 m 446 lsA []) := by
  refine lv_aload_n C.1.1 C.1.2.1 dw_446 rfl (lv_at hl 2 rfl) ?_
  refine lv_aload_n C.1.1 C.1.2.1 dw_447 rfl (lv_at hl 3 rfl) ?_
  refine lv_iload_n C.1.1 C.1.2.1 dw_448 rfl (lv_at hl 0 rfl) ?_
  refine lv_iconst (v := nI 1) C.1.1 C.1.2.1 dw_449 rfl ?_
  refine lv_iadd C.1.1 C.1.2.1 dw_450 ?_
  refine va_sld C.1.1 C.1.2.1 C.2.2.1 C.2.2.2.1 C.2.2.2.2.1 hS (pk_in (i + 1) L (by omega) (nI_add i 1) (by have := C.2.2.2.2.2; omega)) dw_451 ?_
  have ht := c_read hC (xs (nI i + nI 1).toNatClampNeg)
  refine n_lawC (rest := []) C.1 h hS C.2.1 ht (fun _ => rfl) (fun _ => rfl) rfl tz_649 tz_650 tz_651 tz_74 tz_652 ⟨by decide, by decide, (show (parseMethodDescriptor (qw_yn my_X11_read).desc).map (fun d => d.parameters.length) = some 1 by decide +kernel)⟩ ⟨(Nat.le_of_ble_eq_true rfl), (Nat.le_of_ble_eq_true rfl)⟩ ⟨(Nat.le_of_ble_eq_true rfl), (Nat.le_of_ble_eq_true rfl)⟩ hl.1 rfl (Nat.le_of_ble_eq_true rfl) dw_452 (fun σC1 H locs hC1 h hS => ?_)
  refine lv_aload_n C.1.1 C.1.2.1 dw_455 rfl (lv_at hl 1 rfl) ?_
  refine lv_aload_n C.1.1 C.1.2.1 dw_456 rfl (lv_at hl 3 rfl) ?_
  refine lv_iload_n C.1.1 C.1.2.1 dw_457 rfl (lv_at hl 0 rfl) ?_
  refine lv_iconst (v := nI 1) C.1.1 C.1.2.1 dw_458 rfl ?_
  refine lv_iadd C.1.1 C.1.2.1 dw_459 ?_
  refine va_sld C.1.1 C.1.2.1 C.2.2.1 C.2.2.2.1 C.2.2.2.2.1 hS (pk_in (i + 1) L (by omega) (nI_add i 1) (by have := C.2.2.2.2.2; omega)) dw_460 ?_
  have ht := d_read hM (xs (nI i + nI 1).toNatClampNeg)
  refine n_lawM (rest := [.int _]) C.1 h hS ht (fun _ => rfl) (fun _ => rfl) rfl tz_1363 tz_1364 tz_1365 tz_87 tz_1366 ⟨by decide, by decide, (show (parseMethodDescriptor (qw_yn my_X12_read).desc).map (fun d => d.parameters.length) = some 1 by decide +kernel)⟩ ⟨(Nat.le_of_ble_eq_true rfl), (Nat.le_of_ble_eq_true rfl)⟩ ⟨(Nat.le_of_ble_eq_true rfl), (Nat.le_of_ble_eq_true rfl)⟩ hl.1 rfl (Nat.le_of_ble_eq_true rfl) dw_461 (fun σM1 H locs hM1 h hS => ?_)
  exact lv_icmp_eq C.1.1 C.1.2.1 dw_464 rfl (fun _ => kk _ _ _ _ _ _ hC1 hM1 h hS hl) (fun hn => absurd rfl hn)
theorem lwc_11 (C : LC p s m c g z aC b L xs) (hi : i + 6 ≤ L) {A : AS} {σC σM : qw_M} {H : Heap} {locs : List Loc} {lsA : Array Slot} (hC : KC σC A) (hM : KM σM A) (h : nWd g z (nLW g aC aM σC σM) H) (hS : nSt z s H locs) (hl : lv_has lsA 4 [(3, .int (nI i)), (2, .ref (aM 0)), (1, .ref (aC 0)), (0, .ref b)]) (kk : LN p l e s m below meth c Qf g z aC aM b i) : W p l e room_1 s m #[Value.ref b] below meth c H locs 600000 7302250 Qf (F0 m 469 lsA []) := by
  refine lv_aload_n C.1.1 C.1.2.1 dw_469 rfl (lv_at hl 2 rfl) ?_
  refine lv_aload_n C.1.1 C.1.2.1 dw_470 rfl (lv_at hl 3 rfl) ?_
  refine lv_iload_n C.1.1 C.1.2.1 dw_471 rfl (lv_at hl 0 rfl) ?_
  refine lv_iconst (v := nI 1) C.1.1 C.1.2.1 dw_472 rfl ?_
  refine lv_iadd C.1.1 C.1.2.1 dw_473 ?_
  refine va_sld C.1.1 C.1.2.1 C.2.2.1 C.2.2.2.1 C.2.2.2.2.1 hS (pk_in (i + 1) L (by omega) (nI_add i 1) (by have := C.2.2.2.2.2; omega)) dw_474 ?_
  refine lv_aload_n C.1.1 C.1.2.1 dw_475 rfl (lv_at hl 3 rfl) ?_
  refine lv_iload_n C.1.1 C.1.2.1 dw_476 rfl (lv_at hl 0 rfl) ?_
  refine lv_iconst (v := nI 2) C.1.1 C.1.2.1 dw_477 rfl ?_
  refine lv_iadd C.1.1 C.1.2.1 dw_478 ?_
  refine va_sld C.1.1 C.1.2.1 C.2.2.1 C.2.2.2.1 C.2.2.2.2.1 hS (pk_in (i + 2) L (by omega) (nI_add i 2) (by have := C.2.2.2.2.2; omega)) dw_479 ?_
  have ht := c_light hC (xs (nI i + nI 1).toNatClampNeg) (xs (nI i + nI 2).toNatClampNeg)
  refine n_lawC (rest := []) C.1 h hS C.2.1 ht (fun _ => rfl) (fun _ => rfl) rfl tz_673 tz_674 tz_675 tz_74 tz_676 ⟨by decide, by decide, (show (parseMethodDescriptor (qw_yn my_X11_light).desc).map (fun d => d.parameters.length) = some 2 by decide +kernel)⟩ ⟨(Nat.le_of_ble_eq_true rfl), (Nat.le_of_ble_eq_true rfl)⟩ ⟨(Nat.le_of_ble_eq_true rfl), (Nat.le_of_ble_eq_true rfl)⟩ hl.1 rfl (Nat.le_of_ble_eq_true rfl) dw_480 (fun σC1 H locs hC1 h hS => ?_)
  refine lv_aload_n C.1.1 C.1.2.1 dw_483 rfl (lv_at hl 1 rfl) ?_
  refine lv_aload_n C.1.1 C.1.2.1 dw_484 rfl (lv_at hl 3 rfl) ?_
  refine lv_iload_n C.1.1 C.1.2.1 dw_485 rfl (lv_at hl 0 rfl) ?_
  refine lv_iconst (v := nI 1) C.1.1 C.1.2.1 dw_486 rfl ?_
  refine lv_iadd C.1.1 C.1.2.1 dw_487 ?_
  refine va_sld C.1.1 C.1.2.1 C.2.2.1 C.2.2.2.1 C.2.2.2.2.1 hS (pk_in (i + 1) L (by omega) (nI_add i 1) (by have := C.2.2.2.2.2; omega)) dw_488 ?_
  refine lv_aload_n C.1.1 C.1.2.1 dw_489 rfl (lv_at hl 3 rfl) ?_
  refine lv_iload_n C.1.1 C.1.2.1 dw_490 rfl (lv_at hl 0 rfl) ?_
  refine lv_iconst (v := nI 2) C.1.1 C.1.2.1 dw_491 rfl ?_
  refine lv_iadd C.1.1 C.1.2.1 dw_492 ?_
  refine va_sld C.1.1 C.1.2.1 C.2.2.1 C.2.2.2.1 C.2.2.2.2.1 hS (pk_in (i + 2) L (by omega) (nI_add i 2) (by have := C.2.2.2.2.2; omega)) dw_493 ?_
  have ht := d_light hM (xs (nI i + nI 1).toNatClampNeg) (xs (nI i + nI 2).toNatClampNeg)
  refine n_lawM (rest := [.int _]) C.1 h hS ht (fun _ => rfl) (fun _ => rfl) rfl tz_1368 tz_1369 tz_1370 tz_87 tz_1371 ⟨by decide, by decide, (show (parseMethodDescriptor (qw_yn my_X12_light).desc).map (fun d => d.parameters.length) = some 2 by decide +kernel)⟩ ⟨(Nat.le_of_ble_eq_true rfl), (Nat.le_of_ble_eq_true rfl)⟩ ⟨(Nat.le_of_ble_eq_true rfl), (Nat.le_of_ble_eq_true rfl)⟩ hl.1 rfl (Nat.le_of_ble_eq_true rfl) dw_494 (fun σM1 H locs hM1 h hS => ?_)
  exact lv_icmp_eq C.1.1 C.1.2.1 dw_497 rfl (fun _ => kk _ _ _ _ _ _ hC1 hM1 h hS hl) (fun hn => absurd rfl hn)
theorem lwc_12 (C : LC p s m c g z aC b L xs) (hi : i + 6 ≤ L) {A : AS} {σC σM : qw_M} {H : Heap} {locs : List Loc} {lsA : Array Slot} (hC : KC σC A) (hM : KM σM A) (h : nWd g z (nLW g aC aM σC σM) H) (hS : nSt z s H locs) (hl : lv_has lsA 4 [(3, .int (nI i)), (2, .ref (aM 0)), (1, .ref (aC 0)), (0, .ref b)]) (kk : LN p l e s m below meth c Qf g z aC aM b i) : W p l e room_1 s m #[Value.ref b] below meth c H locs 600000 7302250 Qf (F0 m 502 lsA []) := by
  refine lv_aload_n C.1.1 C.1.2.1 dw_502 rfl (lv_at hl 2 rfl) ?_
  refine lv_aload_n C.1.1 C.1.2.1 dw_503 rfl (lv_at hl 3 rfl) ?_
  refine lv_iload_n C.1.1 C.1.2.1 dw_504 rfl (lv_at hl 0 rfl) ?_
  refine lv_iconst (v := nI 1) C.1.1 C.1.2.1 dw_505 rfl ?_
  refine lv_iadd C.1.1 C.1.2.1 dw_506 ?_
  refine va_sld C.1.1 C.1.2.1 C.2.2.1 C.2.2.2.1 C.2.2.2.2.1 hS (pk_in (i + 1) L (by omega) (nI_add i 1) (by have := C.2.2.2.2.2; omega)) dw_507 ?_
  refine lv_aload_n C.1.1 C.1.2.1 dw_508 rfl (lv_at hl 3 rfl) ?_
  refine lv_iload_n C.1.1 C.1.2.1 dw_509 rfl (lv_at hl 0 rfl) ?_
  refine lv_iconst (v := nI 2) C.1.1 C.1.2.1 dw_510 rfl ?_
  refine lv_iadd C.1.1 C.1.2.1 dw_511 ?_
  refine va_sld C.1.1 C.1.2.1 C.2.2.1 C.2.2.2.1 C.2.2.2.2.1 hS (pk_in (i + 2) L (by omega) (nI_add i 2) (by have := C.2.2.2.2.2; omega)) dw_512 ?_
  have ht := c_covers hC (xs (nI i + nI 1).toNatClampNeg) (xs (nI i + nI 2).toNatClampNeg)
  refine n_lawC (rest := []) C.1 h hS C.2.1 ht (fun _ => rfl) (fun _ => rfl) rfl tz_719 tz_720 tz_721 tz_74 tz_722 ⟨by decide, by decide, (show (parseMethodDescriptor (qw_yn my_X11_covers).desc).map (fun d => d.parameters.length) = some 2 by decide +kernel)⟩ ⟨(Nat.le_of_ble_eq_true rfl), (Nat.le_of_ble_eq_true rfl)⟩ ⟨(Nat.le_of_ble_eq_true rfl), (Nat.le_of_ble_eq_true rfl)⟩ hl.1 rfl (Nat.le_of_ble_eq_true rfl) dw_513 (fun σC1 H locs hC1 h hS => ?_)
  refine lv_aload_n C.1.1 C.1.2.1 dw_516 rfl (lv_at hl 1 rfl) ?_
  refine lv_aload_n C.1.1 C.1.2.1 dw_517 rfl (lv_at hl 3 rfl) ?_
  refine lv_iload_n C.1.1 C.1.2.1 dw_518 rfl (lv_at hl 0 rfl) ?_
  refine lv_iconst (v := nI 1) C.1.1 C.1.2.1 dw_519 rfl ?_
  refine lv_iadd C.1.1 C.1.2.1 dw_520 ?_
  refine va_sld C.1.1 C.1.2.1 C.2.2.1 C.2.2.2.1 C.2.2.2.2.1 hS (pk_in (i + 1) L (by omega) (nI_add i 1) (by have := C.2.2.2.2.2; omega)) dw_521 ?_
  refine lv_aload_n C.1.1 C.1.2.1 dw_522 rfl (lv_at hl 3 rfl) ?_
  refine lv_iload_n C.1.1 C.1.2.1 dw_523 rfl (lv_at hl 0 rfl) ?_
  refine lv_iconst (v := nI 2) C.1.1 C.1.2.1 dw_524 rfl ?_
  refine lv_iadd C.1.1 C.1.2.1 dw_525 ?_
  refine va_sld C.1.1 C.1.2.1 C.2.2.1 C.2.2.2.1 C.2.2.2.2.1 hS (pk_in (i + 2) L (by omega) (nI_add i 2) (by have := C.2.2.2.2.2; omega)) dw_526 ?_
  have ht := d_covers hM (xs (nI i + nI 1).toNatClampNeg) (xs (nI i + nI 2).toNatClampNeg)
  refine n_lawM (rest := [.int _]) C.1 h hS ht (fun _ => rfl) (fun _ => rfl) rfl tz_1409 tz_1410 tz_1411 tz_87 tz_1412 ⟨by decide, by decide, (show (parseMethodDescriptor (qw_yn my_X12_covers).desc).map (fun d => d.parameters.length) = some 2 by decide +kernel)⟩ ⟨(Nat.le_of_ble_eq_true rfl), (Nat.le_of_ble_eq_true rfl)⟩ ⟨(Nat.le_of_ble_eq_true rfl), (Nat.le_of_ble_eq_true rfl)⟩ hl.1 rfl (Nat.le_of_ble_eq_true rfl) dw_527 (fun σM1 H locs hM1 h hS => ?_)
  exact lv_icmp_eq C.1.1 C.1.2.1 dw_530 rfl (fun _ => kk _ _ _ _ _ _ hC1 hM1 h hS hl) (fun hn => absurd rfl hn)
theorem lwc_13 (C : LC p s m c g z aC b L xs) (hi : i + 6 ≤ L) {A : AS} {σC σM : qw_M} {H : Heap} {locs : List Loc} {lsA : Array Slot} (hC : KC σC A) (hM : KM σM A) (h : nWd g z (nLW g aC aM σC σM) H) (hS : nSt z s H locs) (hl : lv_has lsA 4 [(3, .int (nI i)), (2, .ref (aM 0)), (1, .ref (aC 0)), (0, .ref b)]) (kk : LN p l e s m below meth c Qf g z aC aM b i) : W p l e room_1 s m #[Value.ref b] below meth c H locs 600000 7302250 Qf (F0 m 535 lsA []) := by
  refine lv_aload_n C.1.1 C.1.2.1 dw_535 rfl (lv_at hl 2 rfl) ?_
  refine lv_aload_n C.1.1 C.1.2.1 dw_536 rfl (lv_at hl 3 rfl) ?_
  refine lv_iload_n C.1.1 C.1.2.1 dw_537 rfl (lv_at hl 0 rfl) ?_
  refine lv_iconst (v := nI 1) C.1.1 C.1.2.1 dw_538 rfl ?_
  refine lv_iadd C.1.1 C.1.2.1 dw_539 ?_
  refine va_sld C.1.1 C.1.2.1 C.2.2.1 C.2.2.2.1 C.2.2.2.2.1 hS (pk_in (i + 1) L (by omega) (nI_add i 1) (by have := C.2.2.2.2.2; omega)) dw_540 ?_
  refine lv_aload_n C.1.1 C.1.2.1 dw_541 rfl (lv_at hl 3 rfl) ?_
  refine lv_iload_n C.1.1 C.1.2.1 dw_542 rfl (lv_at hl 0 rfl) ?_
  refine lv_iconst (v := nI 2) C.1.1 C.1.2.1 dw_543 rfl ?_
  refine lv_iadd C.1.1 C.1.2.1 dw_544 ?_
  refine va_sld C.1.1 C.1.2.1 C.2.2.1 C.2.2.2.1 C.2.2.2.2.1 hS (pk_in (i + 2) L (by omega) (nI_add i 2) (by have := C.2.2.2.2.2; omega)) dw_545 ?_
  refine lv_aload_n C.1.1 C.1.2.1 dw_546 rfl (lv_at hl 3 rfl) ?_
  refine lv_iload_n C.1.1 C.1.2.1 dw_547 rfl (lv_at hl 0 rfl) ?_
  refine lv_iconst (v := nI 3) C.1.1 C.1.2.1 dw_548 rfl ?_
  refine lv_iadd C.1.1 C.1.2.1 dw_549 ?_
  refine va_sld C.1.1 C.1.2.1 C.2.2.1 C.2.2.2.1 C.2.2.2.2.1 hS (pk_in (i + 3) L (by omega) (nI_add i 3) (by have := C.2.2.2.2.2; omega)) dw_550 ?_
  have ht := c_at hC (xs (nI i + nI 1).toNatClampNeg) (xs (nI i + nI 2).toNatClampNeg) (xs (nI i + nI 3).toNatClampNeg)
  refine n_lawC (rest := []) C.1 h hS C.2.1 ht (fun _ => rfl) (fun _ => rfl) rfl tz_732 tz_733 tz_734 tz_74 tz_735 ⟨by decide, by decide, (show (parseMethodDescriptor (qw_yn my_X11_at).desc).map (fun d => d.parameters.length) = some 3 by decide +kernel)⟩ ⟨(Nat.le_of_ble_eq_true rfl), (Nat.le_of_ble_eq_true rfl)⟩ ⟨(Nat.le_of_ble_eq_true rfl), (Nat.le_of_ble_eq_true rfl)⟩ hl.1 rfl (Nat.le_of_ble_eq_true rfl) dw_551 (fun σC1 H locs hC1 h hS => ?_)
  refine lv_aload_n C.1.1 C.1.2.1 dw_554 rfl (lv_at hl 1 rfl) ?_
  refine lv_aload_n C.1.1 C.1.2.1 dw_555 rfl (lv_at hl 3 rfl) ?_
  refine lv_iload_n C.1.1 C.1.2.1 dw_556 rfl (lv_at hl 0 rfl) ?_
  refine lv_iconst (v := nI 1) C.1.1 C.1.2.1 dw_557 rfl ?_
  refine lv_iadd C.1.1 C.1.2.1 dw_558 ?_
  refine va_sld C.1.1 C.1.2.1 C.2.2.1 C.2.2.2.1 C.2.2.2.2.1 hS (pk_in (i + 1) L (by omega) (nI_add i 1) (by have := C.2.2.2.2.2; omega)) dw_559 ?_
  refine lv_aload_n C.1.1 C.1.2.1 dw_560 rfl (lv_at hl 3 rfl) ?_
  refine lv_iload_n C.1.1 C.1.2.1 dw_561 rfl (lv_at hl 0 rfl) ?_
  refine lv_iconst (v := nI 2) C.1.1 C.1.2.1 dw_562 rfl ?_
  refine lv_iadd C.1.1 C.1.2.1 dw_563 ?_
  refine va_sld C.1.1 C.1.2.1 C.2.2.1 C.2.2.2.1 C.2.2.2.2.1 hS (pk_in (i + 2) L (by omega) (nI_add i 2) (by have := C.2.2.2.2.2; omega)) dw_564 ?_
  refine lv_aload_n C.1.1 C.1.2.1 dw_565 rfl (lv_at hl 3 rfl) ?_
  refine lv_iload_n C.1.1 C.1.2.1 dw_566 rfl (lv_at hl 0 rfl) ?_
  refine lv_iconst (v := nI 3) C.1.1 C.1.2.1 dw_567 rfl ?_
  refine lv_iadd C.1.1 C.1.2.1 dw_568 ?_
  refine va_sld C.1.1 C.1.2.1 C.2.2.1 C.2.2.2.1 C.2.2.2.2.1 hS (pk_in (i + 3) L (by omega) (nI_add i 3) (by have := C.2.2.2.2.2; omega)) dw_569 ?_
  have ht := d_at hM (xs (nI i + nI 1).toNatClampNeg) (xs (nI i + nI 2).toNatClampNeg) (xs (nI i + nI 3).toNatClampNeg)
  refine n_lawM (rest := [.int _]) C.1 h hS ht (fun _ => rfl) (fun _ => rfl) rfl tz_1417 tz_1418 tz_1419 tz_87 tz_1420 ⟨by decide, by decide, (show (parseMethodDescriptor (qw_yn my_X12_at).desc).map (fun d => d.parameters.length) = some 3 by decide +kernel)⟩ ⟨(Nat.le_of_ble_eq_true rfl), (Nat.le_of_ble_eq_true rfl)⟩ ⟨(Nat.le_of_ble_eq_true rfl), (Nat.le_of_ble_eq_true rfl)⟩ hl.1 rfl (Nat.le_of_ble_eq_true rfl) dw_570 (fun σM1 H locs hM1 h hS => ?_)
  exact lv_icmp_eq C.1.1 C.1.2.1 dw_573 rfl (fun _ => kk _ _ _ _ _ _ hC1 hM1 h hS hl) (fun hn => absurd rfl hn)
theorem lwc_14 (C : LC p s m c g z aC b L xs) (hi : i + 6 ≤ L) {A : AS} {σC σM : qw_M} {H : Heap} {locs : List Loc} {lsA : Array Slot} (hC : KC σC A) (hM : KM σM A) (h : nWd g z (nLW g aC aM σC σM) H) (hS : nSt z s H locs) (hl : lv_has lsA 4 [(3, .int (nI i)), (2, .ref (aM 0)), (1, .ref (aC 0)), (0, .ref b)]) (kk : LN p l e s m below meth c Qf g z aC aM b i) : W p l e room_1 s m #[Value.ref b] below meth c H locs 600000 7302250 Qf (F0 m 578 lsA []) := by
  refine lv_aload_n C.1.1 C.1.2.1 dw_578 rfl (lv_at hl 2 rfl) ?_
  refine lv_aload_n C.1.1 C.1.2.1 dw_579 rfl (lv_at hl 3 rfl) ?_
  refine lv_iload_n C.1.1 C.1.2.1 dw_580 rfl (lv_at hl 0 rfl) ?_
  refine lv_iconst (v := nI 1) C.1.1 C.1.2.1 dw_581 rfl ?_
  refine lv_iadd C.1.1 C.1.2.1 dw_582 ?_
  refine va_sld C.1.1 C.1.2.1 C.2.2.1 C.2.2.2.1 C.2.2.2.2.1 hS (pk_in (i + 1) L (by omega) (nI_add i 1) (by have := C.2.2.2.2.2; omega)) dw_583 ?_
  refine lv_aload_n C.1.1 C.1.2.1 dw_584 rfl (lv_at hl 3 rfl) ?_
  refine lv_iload_n C.1.1 C.1.2.1 dw_585 rfl (lv_at hl 0 rfl) ?_
  refine lv_iconst (v := nI 2) C.1.1 C.1.2.1 dw_586 rfl ?_
  refine lv_iadd C.1.1 C.1.2.1 dw_587 ?_
  refine va_sld C.1.1 C.1.2.1 C.2.2.1 C.2.2.2.1 C.2.2.2.2.1 hS (pk_in (i + 2) L (by omega) (nI_add i 2) (by have := C.2.2.2.2.2; omega)) dw_588 ?_
  have ht := c_screen hC (xs (nI i + nI 1).toNatClampNeg) (xs (nI i + nI 2).toNatClampNeg)
  refine n_lawC (rest := []) C.1 h hS C.2.1 ht (fun _ => rfl) (fun _ => rfl) rfl tz_757 tz_758 tz_759 tz_74 tz_760 ⟨by decide, by decide, (show (parseMethodDescriptor (qw_yn my_X11_screen).desc).map (fun d => d.parameters.length) = some 2 by decide +kernel)⟩ ⟨(Nat.le_of_ble_eq_true rfl), (Nat.le_of_ble_eq_true rfl)⟩ ⟨(Nat.le_of_ble_eq_true rfl), (Nat.le_of_ble_eq_true rfl)⟩ hl.1 rfl (Nat.le_of_ble_eq_true rfl) dw_589 (fun σC1 H locs hC1 h hS => ?_)
  refine lv_aload_n C.1.1 C.1.2.1 dw_592 rfl (lv_at hl 1 rfl) ?_
  refine lv_aload_n C.1.1 C.1.2.1 dw_593 rfl (lv_at hl 3 rfl) ?_
  refine lv_iload_n C.1.1 C.1.2.1 dw_594 rfl (lv_at hl 0 rfl) ?_
  refine lv_iconst (v := nI 1) C.1.1 C.1.2.1 dw_595 rfl ?_
  refine lv_iadd C.1.1 C.1.2.1 dw_596 ?_
  refine va_sld C.1.1 C.1.2.1 C.2.2.1 C.2.2.2.1 C.2.2.2.2.1 hS (pk_in (i + 1) L (by omega) (nI_add i 1) (by have := C.2.2.2.2.2; omega)) dw_597 ?_
  refine lv_aload_n C.1.1 C.1.2.1 dw_598 rfl (lv_at hl 3 rfl) ?_
  refine lv_iload_n C.1.1 C.1.2.1 dw_599 rfl (lv_at hl 0 rfl) ?_
  refine lv_iconst (v := nI 2) C.1.1 C.1.2.1 dw_600 rfl ?_
  refine lv_iadd C.1.1 C.1.2.1 dw_601 ?_
  refine va_sld C.1.1 C.1.2.1 C.2.2.1 C.2.2.2.1 C.2.2.2.2.1 hS (pk_in (i + 2) L (by omega) (nI_add i 2) (by have := C.2.2.2.2.2; omega)) dw_602 ?_
  have ht := d_screen hM (xs (nI i + nI 1).toNatClampNeg) (xs (nI i + nI 2).toNatClampNeg)
  refine n_lawM (rest := [.int _]) C.1 h hS ht (fun _ => rfl) (fun _ => rfl) rfl tz_1425 tz_1426 tz_1427 tz_87 tz_1428 ⟨by decide, by decide, (show (parseMethodDescriptor (qw_yn my_X12_screen).desc).map (fun d => d.parameters.length) = some 2 by decide +kernel)⟩ ⟨(Nat.le_of_ble_eq_true rfl), (Nat.le_of_ble_eq_true rfl)⟩ ⟨(Nat.le_of_ble_eq_true rfl), (Nat.le_of_ble_eq_true rfl)⟩ hl.1 rfl (Nat.le_of_ble_eq_true rfl) dw_603 (fun σM1 H locs hM1 h hS => ?_)
  exact lv_icmp_eq C.1.1 C.1.2.1 dw_606 rfl (fun _ => kk _ _ _ _ _ _ hC1 hM1 h hS hl) (fun hn => absurd rfl hn)
theorem lwc_15 (C : LC p s m c g z aC b L xs) (hi : i + 6 ≤ L) {A : AS} {σC σM : qw_M} {H : Heap} {locs : List Loc} {lsA : Array Slot} (hC : KC σC A) (hM : KM σM A) (h : nWd g z (nLW g aC aM σC σM) H) (hS : nSt z s H locs) (hl : lv_has lsA 4 [(3, .int (nI i)), (2, .ref (aM 0)), (1, .ref (aC 0)), (0, .ref b)]) (kk : LN p l e s m below meth c Qf g z aC aM b i) : W p l e room_1 s m #[Value.ref b] below meth c H locs 600000 7302250 Qf (F0 m 611 lsA []) := by
  refine lv_aload_n C.1.1 C.1.2.1 dw_611 rfl (lv_at hl 2 rfl) ?_
  refine lv_aload_n C.1.1 C.1.2.1 dw_612 rfl (lv_at hl 3 rfl) ?_
  refine lv_iload_n C.1.1 C.1.2.1 dw_613 rfl (lv_at hl 0 rfl) ?_
  refine lv_iconst (v := nI 1) C.1.1 C.1.2.1 dw_614 rfl ?_
  refine lv_iadd C.1.1 C.1.2.1 dw_615 ?_
  refine va_sld C.1.1 C.1.2.1 C.2.2.1 C.2.2.2.1 C.2.2.2.2.1 hS (pk_in (i + 1) L (by omega) (nI_add i 1) (by have := C.2.2.2.2.2; omega)) dw_616 ?_
  have ht := c_shown hC (xs (nI i + nI 1).toNatClampNeg)
  refine n_lawC (rest := []) C.1 h hS C.2.1 ht (fun _ => rfl) (fun _ => rfl) rfl tz_775 tz_776 tz_777 tz_74 tz_778 ⟨by decide, by decide, (show (parseMethodDescriptor (qw_yn my_X11_shown).desc).map (fun d => d.parameters.length) = some 1 by decide +kernel)⟩ ⟨(Nat.le_of_ble_eq_true rfl), (Nat.le_of_ble_eq_true rfl)⟩ ⟨(Nat.le_of_ble_eq_true rfl), (Nat.le_of_ble_eq_true rfl)⟩ hl.1 rfl (Nat.le_of_ble_eq_true rfl) dw_617 (fun σC1 H locs hC1 h hS => ?_)
  refine lv_aload_n C.1.1 C.1.2.1 dw_620 rfl (lv_at hl 1 rfl) ?_
  refine lv_aload_n C.1.1 C.1.2.1 dw_621 rfl (lv_at hl 3 rfl) ?_
  refine lv_iload_n C.1.1 C.1.2.1 dw_622 rfl (lv_at hl 0 rfl) ?_
  refine lv_iconst (v := nI 1) C.1.1 C.1.2.1 dw_623 rfl ?_
  refine lv_iadd C.1.1 C.1.2.1 dw_624 ?_
  refine va_sld C.1.1 C.1.2.1 C.2.2.1 C.2.2.2.1 C.2.2.2.2.1 hS (pk_in (i + 1) L (by omega) (nI_add i 1) (by have := C.2.2.2.2.2; omega)) dw_625 ?_
  have ht := d_shown hM (xs (nI i + nI 1).toNatClampNeg)
  refine n_lawM (rest := [.int _]) C.1 h hS ht (fun _ => rfl) (fun _ => rfl) rfl tz_1437 tz_1438 tz_1439 tz_87 tz_1440 ⟨by decide, by decide, (show (parseMethodDescriptor (qw_yn my_X12_shown).desc).map (fun d => d.parameters.length) = some 1 by decide +kernel)⟩ ⟨(Nat.le_of_ble_eq_true rfl), (Nat.le_of_ble_eq_true rfl)⟩ ⟨(Nat.le_of_ble_eq_true rfl), (Nat.le_of_ble_eq_true rfl)⟩ hl.1 rfl (Nat.le_of_ble_eq_true rfl) dw_626 (fun σM1 H locs hM1 h hS => ?_)
  exact lv_icmp_eq C.1.1 C.1.2.1 dw_629 rfl (fun _ => kk _ _ _ _ _ _ hC1 hM1 h hS hl) (fun hn => absurd rfl hn)
theorem lwc_16 (C : LC p s m c g z aC b L xs) (hi : i + 6 ≤ L) {A : AS} {σC σM : qw_M} {H : Heap} {locs : List Loc} {lsA : Array Slot} (hC : KC σC A) (hM : KM σM A) (h : nWd g z (nLW g aC aM σC σM) H) (hS : nSt z s H locs) (hl : lv_has lsA 4 [(3, .int (nI i)), (2, .ref (aM 0)), (1, .ref (aC 0)), (0, .ref b)]) (kk : LN p l e s m below meth c Qf g z aC aM b i) : W p l e room_1 s m #[Value.ref b] below meth c H locs 600000 7302250 Qf (F0 m 634 lsA []) := by
  refine lv_aload_n C.1.1 C.1.2.1 dw_634 rfl (lv_at hl 2 rfl) ?_
  refine lv_aload_n C.1.1 C.1.2.1 dw_635 rfl (lv_at hl 3 rfl) ?_
  refine lv_iload_n C.1.1 C.1.2.1 dw_636 rfl (lv_at hl 0 rfl) ?_
  refine lv_iconst (v := nI 1) C.1.1 C.1.2.1 dw_637 rfl ?_
  refine lv_iadd C.1.1 C.1.2.1 dw_638 ?_
  refine va_sld C.1.1 C.1.2.1 C.2.2.1 C.2.2.2.1 C.2.2.2.2.1 hS (pk_in (i + 1) L (by omega) (nI_add i 1) (by have := C.2.2.2.2.2; omega)) dw_639 ?_
  have ht := c_touched hC (xs (nI i + nI 1).toNatClampNeg)
  refine n_lawC (rest := []) C.1 h hS C.2.1 ht (fun _ => rfl) (fun _ => rfl) rfl tz_794 tz_795 tz_796 tz_74 tz_797 ⟨by decide, by decide, (show (parseMethodDescriptor (qw_yn my_X11_touched).desc).map (fun d => d.parameters.length) = some 1 by decide +kernel)⟩ ⟨(Nat.le_of_ble_eq_true rfl), (Nat.le_of_ble_eq_true rfl)⟩ ⟨(Nat.le_of_ble_eq_true rfl), (Nat.le_of_ble_eq_true rfl)⟩ hl.1 rfl (Nat.le_of_ble_eq_true rfl) dw_640 (fun σC1 H locs hC1 h hS => ?_)
  refine lv_aload_n C.1.1 C.1.2.1 dw_643 rfl (lv_at hl 1 rfl) ?_
  refine lv_aload_n C.1.1 C.1.2.1 dw_644 rfl (lv_at hl 3 rfl) ?_
  refine lv_iload_n C.1.1 C.1.2.1 dw_645 rfl (lv_at hl 0 rfl) ?_
  refine lv_iconst (v := nI 1) C.1.1 C.1.2.1 dw_646 rfl ?_
  refine lv_iadd C.1.1 C.1.2.1 dw_647 ?_
  refine va_sld C.1.1 C.1.2.1 C.2.2.1 C.2.2.2.1 C.2.2.2.2.1 hS (pk_in (i + 1) L (by omega) (nI_add i 1) (by have := C.2.2.2.2.2; omega)) dw_648 ?_
  have ht := d_touched hM (xs (nI i + nI 1).toNatClampNeg)
  refine n_lawM (rest := [.int _]) C.1 h hS ht (fun _ => rfl) (fun _ => rfl) rfl tz_1453 tz_1454 tz_1455 tz_87 tz_1456 ⟨by decide, by decide, (show (parseMethodDescriptor (qw_yn my_X12_touched).desc).map (fun d => d.parameters.length) = some 1 by decide +kernel)⟩ ⟨(Nat.le_of_ble_eq_true rfl), (Nat.le_of_ble_eq_true rfl)⟩ ⟨(Nat.le_of_ble_eq_true rfl), (Nat.le_of_ble_eq_true rfl)⟩ hl.1 rfl (Nat.le_of_ble_eq_true rfl) dw_649 (fun σM1 H locs hM1 h hS => ?_)
  exact lv_icmp_eq C.1.1 C.1.2.1 dw_652 rfl (fun _ => kk _ _ _ _ _ _ hC1 hM1 h hS hl) (fun hn => absurd rfl hn)
theorem lwc_17 (C : LC p s m c g z aC b L xs) (hi : i + 6 ≤ L) {A : AS} {σC σM : qw_M} {H : Heap} {locs : List Loc} {lsA : Array Slot} (hC : KC σC A) (hM : KM σM A) (h : nWd g z (nLW g aC aM σC σM) H) (hS : nSt z s H locs) (hl : lv_has lsA 4 [(3, .int (nI i)), (2, .ref (aM 0)), (1, .ref (aC 0)), (0, .ref b)]) (kk : LN p l e s m below meth c Qf g z aC aM b i) : W p l e room_1 s m #[Value.ref b] below meth c H locs 600000 7302250 Qf (F0 m 657 lsA []) := by
  refine lv_aload_n C.1.1 C.1.2.1 dw_657 rfl (lv_at hl 2 rfl) ?_
  have ht := c_darkest hC 
  refine n_lawC (rest := []) C.1 h hS C.2.1 ht (fun _ => rfl) (fun _ => rfl) rfl tz_806 tz_807 tz_808 tz_74 tz_809 ⟨by decide, by decide, (show (parseMethodDescriptor (qw_yn my_X11_darkest).desc).map (fun d => d.parameters.length) = some 0 by decide +kernel)⟩ ⟨(Nat.le_of_ble_eq_true rfl), (Nat.le_of_ble_eq_true rfl)⟩ ⟨(Nat.le_of_ble_eq_true rfl), (Nat.le_of_ble_eq_true rfl)⟩ hl.1 rfl (Nat.le_of_ble_eq_true rfl) dw_658 (fun σC1 H locs hC1 h hS => ?_)
  refine lv_aload_n C.1.1 C.1.2.1 dw_661 rfl (lv_at hl 1 rfl) ?_
  have ht := d_darkest hM 
  refine n_lawM (rest := [.int _]) C.1 h hS ht (fun _ => rfl) (fun _ => rfl) rfl tz_1465 tz_1466 tz_1467 tz_87 tz_1468 ⟨by decide, by decide, (show (parseMethodDescriptor (qw_yn my_X12_darkest).desc).map (fun d => d.parameters.length) = some 0 by decide +kernel)⟩ ⟨(Nat.le_of_ble_eq_true rfl), (Nat.le_of_ble_eq_true rfl)⟩ ⟨(Nat.le_of_ble_eq_true rfl), (Nat.le_of_ble_eq_true rfl)⟩ hl.1 rfl (Nat.le_of_ble_eq_true rfl) dw_662 (fun σM1 H locs hM1 h hS => ?_)
  exact lv_icmp_eq C.1.1 C.1.2.1 dw_665 rfl (fun _ => kk _ _ _ _ _ _ hC1 hM1 h hS hl) (fun hn => absurd rfl hn)
theorem lwc_18 (C : LC p s m c g z aC b L xs) (hi : i + 6 ≤ L) {A : AS} {σC σM : qw_M} {H : Heap} {locs : List Loc} {lsA : Array Slot} (hC : KC σC A) (hM : KM σM A) (h : nWd g z (nLW g aC aM σC σM) H) (hS : nSt z s H locs) (hl : lv_has lsA 4 [(3, .int (nI i)), (2, .ref (aM 0)), (1, .ref (aC 0)), (0, .ref b)]) (kk : LN p l e s m below meth c Qf g z aC aM b i) : W p l e room_1 s m #[Value.ref b] below meth c H locs 600000 7302250 Qf (F0 m 670 lsA []) := by
  refine lv_aload_n C.1.1 C.1.2.1 dw_670 rfl (lv_at hl 2 rfl) ?_
  refine lv_aload_n C.1.1 C.1.2.1 dw_671 rfl (lv_at hl 3 rfl) ?_
  refine lv_iload_n C.1.1 C.1.2.1 dw_672 rfl (lv_at hl 0 rfl) ?_
  refine lv_iconst (v := nI 1) C.1.1 C.1.2.1 dw_673 rfl ?_
  refine lv_iadd C.1.1 C.1.2.1 dw_674 ?_
  refine va_sld C.1.1 C.1.2.1 C.2.2.1 C.2.2.2.1 C.2.2.2.2.1 hS (pk_in (i + 1) L (by omega) (nI_add i 1) (by have := C.2.2.2.2.2; omega)) dw_675 ?_
  refine lv_aload_n C.1.1 C.1.2.1 dw_676 rfl (lv_at hl 3 rfl) ?_
  refine lv_iload_n C.1.1 C.1.2.1 dw_677 rfl (lv_at hl 0 rfl) ?_
  refine lv_iconst (v := nI 2) C.1.1 C.1.2.1 dw_678 rfl ?_
  refine lv_iadd C.1.1 C.1.2.1 dw_679 ?_
  refine va_sld C.1.1 C.1.2.1 C.2.2.1 C.2.2.2.1 C.2.2.2.2.1 hS (pk_in (i + 2) L (by omega) (nI_add i 2) (by have := C.2.2.2.2.2; omega)) dw_680 ?_
  refine lv_aload_n C.1.1 C.1.2.1 dw_681 rfl (lv_at hl 3 rfl) ?_
  refine lv_iload_n C.1.1 C.1.2.1 dw_682 rfl (lv_at hl 0 rfl) ?_
  refine lv_iconst (v := nI 3) C.1.1 C.1.2.1 dw_683 rfl ?_
  refine lv_iadd C.1.1 C.1.2.1 dw_684 ?_
  refine va_sld C.1.1 C.1.2.1 C.2.2.1 C.2.2.2.1 C.2.2.2.2.1 hS (pk_in (i + 3) L (by omega) (nI_add i 3) (by have := C.2.2.2.2.2; omega)) dw_685 ?_
  have ht := c_hang hC (xs (nI i + nI 1).toNatClampNeg) (xs (nI i + nI 2).toNatClampNeg) (xs (nI i + nI 3).toNatClampNeg)
  refine n_lawC (rest := []) C.1 h hS C.2.1 ht (fun _ => rfl) (fun _ => rfl) rfl tz_815 tz_816 tz_817 tz_74 tz_818 ⟨by decide, by decide, (show (parseMethodDescriptor (qw_yn my_X11_hang).desc).map (fun d => d.parameters.length) = some 3 by decide +kernel)⟩ ⟨(Nat.le_of_ble_eq_true rfl), (Nat.le_of_ble_eq_true rfl)⟩ ⟨(Nat.le_of_ble_eq_true rfl), (Nat.le_of_ble_eq_true rfl)⟩ hl.1 rfl (Nat.le_of_ble_eq_true rfl) dw_686 (fun σC1 H locs hC1 h hS => ?_)
  refine lv_aload_n C.1.1 C.1.2.1 dw_689 rfl (lv_at hl 1 rfl) ?_
  refine lv_aload_n C.1.1 C.1.2.1 dw_690 rfl (lv_at hl 3 rfl) ?_
  refine lv_iload_n C.1.1 C.1.2.1 dw_691 rfl (lv_at hl 0 rfl) ?_
  refine lv_iconst (v := nI 1) C.1.1 C.1.2.1 dw_692 rfl ?_
  refine lv_iadd C.1.1 C.1.2.1 dw_693 ?_
  refine va_sld C.1.1 C.1.2.1 C.2.2.1 C.2.2.2.1 C.2.2.2.2.1 hS (pk_in (i + 1) L (by omega) (nI_add i 1) (by have := C.2.2.2.2.2; omega)) dw_694 ?_
  refine lv_aload_n C.1.1 C.1.2.1 dw_695 rfl (lv_at hl 3 rfl) ?_
  refine lv_iload_n C.1.1 C.1.2.1 dw_696 rfl (lv_at hl 0 rfl) ?_
  refine lv_iconst (v := nI 2) C.1.1 C.1.2.1 dw_697 rfl ?_
  refine lv_iadd C.1.1 C.1.2.1 dw_698 ?_
  refine va_sld C.1.1 C.1.2.1 C.2.2.1 C.2.2.2.1 C.2.2.2.2.1 hS (pk_in (i + 2) L (by omega) (nI_add i 2) (by have := C.2.2.2.2.2; omega)) dw_699 ?_
  refine lv_aload_n C.1.1 C.1.2.1 dw_700 rfl (lv_at hl 3 rfl) ?_
  refine lv_iload_n C.1.1 C.1.2.1 dw_701 rfl (lv_at hl 0 rfl) ?_
  refine lv_iconst (v := nI 3) C.1.1 C.1.2.1 dw_702 rfl ?_
  refine lv_iadd C.1.1 C.1.2.1 dw_703 ?_
  refine va_sld C.1.1 C.1.2.1 C.2.2.1 C.2.2.2.1 C.2.2.2.2.1 hS (pk_in (i + 3) L (by omega) (nI_add i 3) (by have := C.2.2.2.2.2; omega)) dw_704 ?_
  have ht := d_hang hM (xs (nI i + nI 1).toNatClampNeg) (xs (nI i + nI 2).toNatClampNeg) (xs (nI i + nI 3).toNatClampNeg)
  refine n_lawM (rest := [.int _]) C.1 h hS ht (fun _ => rfl) (fun _ => rfl) rfl tz_1473 tz_1474 tz_1475 tz_87 tz_1476 ⟨by decide, by decide, (show (parseMethodDescriptor (qw_yn my_X12_hang).desc).map (fun d => d.parameters.length) = some 3 by decide +kernel)⟩ ⟨(Nat.le_of_ble_eq_true rfl), (Nat.le_of_ble_eq_true rfl)⟩ ⟨(Nat.le_of_ble_eq_true rfl), (Nat.le_of_ble_eq_true rfl)⟩ hl.1 rfl (Nat.le_of_ble_eq_true rfl) dw_705 (fun σM1 H locs hM1 h hS => ?_)
  exact lv_icmp_eq C.1.1 C.1.2.1 dw_708 rfl (fun _ => kk _ _ _ _ _ _ hC1 hM1 h hS hl) (fun hn => absurd rfl hn)
theorem lwc_19 (C : LC p s m c g z aC b L xs) (hi : i + 6 ≤ L) {A : AS} {σC σM : qw_M} {H : Heap} {locs : List Loc} {lsA : Array Slot} (hC : KC σC A) (hM : KM σM A) (h : nWd g z (nLW g aC aM σC σM) H) (hS : nSt z s H locs) (hl : lv_has lsA 4 [(3, .int (nI i)), (2, .ref (aM 0)), (1, .ref (aC 0)), (0, .ref b)]) (kk : LN p l e s m below meth c Qf g z aC aM b i) : W p l e room_1 s m #[Value.ref b] below meth c H locs 600000 7302250 Qf (F0 m 713 lsA []) := by
  refine lv_aload_n C.1.1 C.1.2.1 dw_713 rfl (lv_at hl 2 rfl) ?_
  refine lv_aload_n C.1.1 C.1.2.1 dw_714 rfl (lv_at hl 3 rfl) ?_
  refine lv_iload_n C.1.1 C.1.2.1 dw_715 rfl (lv_at hl 0 rfl) ?_
  refine lv_iconst (v := nI 1) C.1.1 C.1.2.1 dw_716 rfl ?_
  refine lv_iadd C.1.1 C.1.2.1 dw_717 ?_
  refine va_sld C.1.1 C.1.2.1 C.2.2.1 C.2.2.2.1 C.2.2.2.2.1 hS (pk_in (i + 1) L (by omega) (nI_add i 1) (by have := C.2.2.2.2.2; omega)) dw_718 ?_
  refine lv_aload_n C.1.1 C.1.2.1 dw_719 rfl (lv_at hl 3 rfl) ?_
  refine lv_iload_n C.1.1 C.1.2.1 dw_720 rfl (lv_at hl 0 rfl) ?_
  refine lv_iconst (v := nI 2) C.1.1 C.1.2.1 dw_721 rfl ?_
  refine lv_iadd C.1.1 C.1.2.1 dw_722 ?_
  refine va_sld C.1.1 C.1.2.1 C.2.2.1 C.2.2.2.1 C.2.2.2.2.1 hS (pk_in (i + 2) L (by omega) (nI_add i 2) (by have := C.2.2.2.2.2; omega)) dw_723 ?_
  have ht := c_shift hC (xs (nI i + nI 1).toNatClampNeg) (xs (nI i + nI 2).toNatClampNeg)
  refine n_lawC (rest := []) C.1 h hS C.2.1 ht (fun _ => rfl) (fun _ => rfl) rfl tz_855 tz_856 tz_857 tz_74 tz_858 ⟨by decide, by decide, (show (parseMethodDescriptor (qw_yn my_X11_shift).desc).map (fun d => d.parameters.length) = some 2 by decide +kernel)⟩ ⟨(Nat.le_of_ble_eq_true rfl), (Nat.le_of_ble_eq_true rfl)⟩ ⟨(Nat.le_of_ble_eq_true rfl), (Nat.le_of_ble_eq_true rfl)⟩ hl.1 rfl (Nat.le_of_ble_eq_true rfl) dw_724 (fun σC1 H locs hC1 h hS => ?_)
  refine lv_aload_n C.1.1 C.1.2.1 dw_727 rfl (lv_at hl 1 rfl) ?_
  refine lv_aload_n C.1.1 C.1.2.1 dw_728 rfl (lv_at hl 3 rfl) ?_
  refine lv_iload_n C.1.1 C.1.2.1 dw_729 rfl (lv_at hl 0 rfl) ?_
  refine lv_iconst (v := nI 1) C.1.1 C.1.2.1 dw_730 rfl ?_
  refine lv_iadd C.1.1 C.1.2.1 dw_731 ?_
  refine va_sld C.1.1 C.1.2.1 C.2.2.1 C.2.2.2.1 C.2.2.2.2.1 hS (pk_in (i + 1) L (by omega) (nI_add i 1) (by have := C.2.2.2.2.2; omega)) dw_732 ?_
  refine lv_aload_n C.1.1 C.1.2.1 dw_733 rfl (lv_at hl 3 rfl) ?_
  refine lv_iload_n C.1.1 C.1.2.1 dw_734 rfl (lv_at hl 0 rfl) ?_
  refine lv_iconst (v := nI 2) C.1.1 C.1.2.1 dw_735 rfl ?_
  refine lv_iadd C.1.1 C.1.2.1 dw_736 ?_
  refine va_sld C.1.1 C.1.2.1 C.2.2.1 C.2.2.2.1 C.2.2.2.2.1 hS (pk_in (i + 2) L (by omega) (nI_add i 2) (by have := C.2.2.2.2.2; omega)) dw_737 ?_
  have ht := d_shift hM (xs (nI i + nI 1).toNatClampNeg) (xs (nI i + nI 2).toNatClampNeg)
  refine n_lawM (rest := [.int _]) C.1 h hS ht (fun _ => rfl) (fun _ => rfl) rfl tz_1481 tz_1482 tz_1483 tz_87 tz_1484 ⟨by decide, by decide, (show (parseMethodDescriptor (qw_yn my_X12_shift).desc).map (fun d => d.parameters.length) = some 2 by decide +kernel)⟩ ⟨(Nat.le_of_ble_eq_true rfl), (Nat.le_of_ble_eq_true rfl)⟩ ⟨(Nat.le_of_ble_eq_true rfl), (Nat.le_of_ble_eq_true rfl)⟩ hl.1 rfl (Nat.le_of_ble_eq_true rfl) dw_738 (fun σM1 H locs hM1 h hS => ?_)
  exact lv_icmp_eq C.1.1 C.1.2.1 dw_741 rfl (fun _ => kk _ _ _ _ _ _ hC1 hM1 h hS hl) (fun hn => absurd rfl hn)
theorem lwc_20 (C : LC p s m c g z aC b L xs) (hi : i + 6 ≤ L) {A : AS} {σC σM : qw_M} {H : Heap} {locs : List Loc} {lsA : Array Slot} (hC : KC σC A) (hM : KM σM A) (h : nWd g z (nLW g aC aM σC σM) H) (hS : nSt z s H locs) (hl : lv_has lsA 4 [(3, .int (nI i)), (2, .ref (aM 0)), (1, .ref (aC 0)), (0, .ref b)]) (kk : LN p l e s m below meth c Qf g z aC aM b i) : W p l e room_1 s m #[Value.ref b] below meth c H locs 600000 7302250 Qf (F0 m 746 lsA []) := by
  refine lv_aload_n C.1.1 C.1.2.1 dw_746 rfl (lv_at hl 2 rfl) ?_
  refine lv_aload_n C.1.1 C.1.2.1 dw_747 rfl (lv_at hl 3 rfl) ?_
  refine lv_iload_n C.1.1 C.1.2.1 dw_748 rfl (lv_at hl 0 rfl) ?_
  refine lv_iconst (v := nI 1) C.1.1 C.1.2.1 dw_749 rfl ?_
  refine lv_iadd C.1.1 C.1.2.1 dw_750 ?_
  refine va_sld C.1.1 C.1.2.1 C.2.2.1 C.2.2.2.1 C.2.2.2.2.1 hS (pk_in (i + 1) L (by omega) (nI_add i 1) (by have := C.2.2.2.2.2; omega)) dw_751 ?_
  have ht := c_more hC (xs (nI i + nI 1).toNatClampNeg)
  refine n_lawC (rest := []) C.1 h hS C.2.1 ht (fun _ => rfl) (fun _ => rfl) rfl tz_863 tz_864 tz_865 tz_74 tz_866 ⟨by decide, by decide, (show (parseMethodDescriptor (qw_yn my_X11_more).desc).map (fun d => d.parameters.length) = some 1 by decide +kernel)⟩ ⟨(Nat.le_of_ble_eq_true rfl), (Nat.le_of_ble_eq_true rfl)⟩ ⟨(Nat.le_of_ble_eq_true rfl), (Nat.le_of_ble_eq_true rfl)⟩ hl.1 rfl (Nat.le_of_ble_eq_true rfl) dw_752 (fun σC1 H locs hC1 h hS => ?_)
  refine lv_aload_n C.1.1 C.1.2.1 dw_755 rfl (lv_at hl 1 rfl) ?_
  refine lv_aload_n C.1.1 C.1.2.1 dw_756 rfl (lv_at hl 3 rfl) ?_
  refine lv_iload_n C.1.1 C.1.2.1 dw_757 rfl (lv_at hl 0 rfl) ?_
  refine lv_iconst (v := nI 1) C.1.1 C.1.2.1 dw_758 rfl ?_
  refine lv_iadd C.1.1 C.1.2.1 dw_759 ?_
  refine va_sld C.1.1 C.1.2.1 C.2.2.1 C.2.2.2.1 C.2.2.2.2.1 hS (pk_in (i + 1) L (by omega) (nI_add i 1) (by have := C.2.2.2.2.2; omega)) dw_760 ?_
  have ht := d_more hM (xs (nI i + nI 1).toNatClampNeg)
  refine n_lawM (rest := [.int _]) C.1 h hS ht (fun _ => rfl) (fun _ => rfl) rfl tz_1489 tz_1490 tz_1491 tz_87 tz_1492 ⟨by decide, by decide, (show (parseMethodDescriptor (qw_yn my_X12_more).desc).map (fun d => d.parameters.length) = some 1 by decide +kernel)⟩ ⟨(Nat.le_of_ble_eq_true rfl), (Nat.le_of_ble_eq_true rfl)⟩ ⟨(Nat.le_of_ble_eq_true rfl), (Nat.le_of_ble_eq_true rfl)⟩ hl.1 rfl (Nat.le_of_ble_eq_true rfl) dw_761 (fun σM1 H locs hM1 h hS => ?_)
  exact lv_icmp_eq C.1.1 C.1.2.1 dw_764 rfl (fun _ => kk _ _ _ _ _ _ hC1 hM1 h hS hl) (fun hn => absurd rfl hn)
theorem lwc_21 (C : LC p s m c g z aC b L xs) (hi : i + 6 ≤ L) {A : AS} {σC σM : qw_M} {H : Heap} {locs : List Loc} {lsA : Array Slot} (hC : KC σC A) (hM : KM σM A) (h : nWd g z (nLW g aC aM σC σM) H) (hS : nSt z s H locs) (hl : lv_has lsA 4 [(3, .int (nI i)), (2, .ref (aM 0)), (1, .ref (aC 0)), (0, .ref b)]) (kk : LN p l e s m below meth c Qf g z aC aM b i) : W p l e room_1 s m #[Value.ref b] below meth c H locs 600000 7302250 Qf (F0 m 769 lsA []) := by
  refine lv_aload_n C.1.1 C.1.2.1 dw_769 rfl (lv_at hl 2 rfl) ?_
  refine lv_aload_n C.1.1 C.1.2.1 dw_770 rfl (lv_at hl 3 rfl) ?_
  refine lv_iload_n C.1.1 C.1.2.1 dw_771 rfl (lv_at hl 0 rfl) ?_
  refine lv_iconst (v := nI 1) C.1.1 C.1.2.1 dw_772 rfl ?_
  refine lv_iadd C.1.1 C.1.2.1 dw_773 ?_
  refine va_sld C.1.1 C.1.2.1 C.2.2.1 C.2.2.2.1 C.2.2.2.2.1 hS (pk_in (i + 1) L (by omega) (nI_add i 1) (by have := C.2.2.2.2.2; omega)) dw_774 ?_
  refine lv_aload_n C.1.1 C.1.2.1 dw_775 rfl (lv_at hl 3 rfl) ?_
  refine lv_iload_n C.1.1 C.1.2.1 dw_776 rfl (lv_at hl 0 rfl) ?_
  refine lv_iconst (v := nI 2) C.1.1 C.1.2.1 dw_777 rfl ?_
  refine lv_iadd C.1.1 C.1.2.1 dw_778 ?_
  refine va_sld C.1.1 C.1.2.1 C.2.2.1 C.2.2.2.1 C.2.2.2.2.1 hS (pk_in (i + 2) L (by omega) (nI_add i 2) (by have := C.2.2.2.2.2; omega)) dw_779 ?_
  have ht := c_leave hC (xs (nI i + nI 1).toNatClampNeg) (xs (nI i + nI 2).toNatClampNeg)
  refine n_lawC (rest := []) C.1 h hS C.2.1 ht (fun _ => rfl) (fun _ => rfl) rfl tz_878 tz_879 tz_880 tz_74 tz_881 ⟨by decide, by decide, (show (parseMethodDescriptor (qw_yn my_X11_leave).desc).map (fun d => d.parameters.length) = some 2 by decide +kernel)⟩ ⟨(Nat.le_of_ble_eq_true rfl), (Nat.le_of_ble_eq_true rfl)⟩ ⟨(Nat.le_of_ble_eq_true rfl), (Nat.le_of_ble_eq_true rfl)⟩ hl.1 rfl (Nat.le_of_ble_eq_true rfl) dw_780 (fun σC1 H locs hC1 h hS => ?_)
  refine lv_aload_n C.1.1 C.1.2.1 dw_783 rfl (lv_at hl 1 rfl) ?_
  refine lv_aload_n C.1.1 C.1.2.1 dw_784 rfl (lv_at hl 3 rfl) ?_
  refine lv_iload_n C.1.1 C.1.2.1 dw_785 rfl (lv_at hl 0 rfl) ?_
  refine lv_iconst (v := nI 1) C.1.1 C.1.2.1 dw_786 rfl ?_
  refine lv_iadd C.1.1 C.1.2.1 dw_787 ?_
  refine va_sld C.1.1 C.1.2.1 C.2.2.1 C.2.2.2.1 C.2.2.2.2.1 hS (pk_in (i + 1) L (by omega) (nI_add i 1) (by have := C.2.2.2.2.2; omega)) dw_788 ?_
  refine lv_aload_n C.1.1 C.1.2.1 dw_789 rfl (lv_at hl 3 rfl) ?_
  refine lv_iload_n C.1.1 C.1.2.1 dw_790 rfl (lv_at hl 0 rfl) ?_
  refine lv_iconst (v := nI 2) C.1.1 C.1.2.1 dw_791 rfl ?_
  refine lv_iadd C.1.1 C.1.2.1 dw_792 ?_
  refine va_sld C.1.1 C.1.2.1 C.2.2.1 C.2.2.2.1 C.2.2.2.2.1 hS (pk_in (i + 2) L (by omega) (nI_add i 2) (by have := C.2.2.2.2.2; omega)) dw_793 ?_
  have ht := d_leave hM (xs (nI i + nI 1).toNatClampNeg) (xs (nI i + nI 2).toNatClampNeg)
  refine n_lawM (rest := [.int _]) C.1 h hS ht (fun _ => rfl) (fun _ => rfl) rfl tz_1502 tz_1503 tz_1504 tz_87 tz_1505 ⟨by decide, by decide, (show (parseMethodDescriptor (qw_yn my_X12_leave).desc).map (fun d => d.parameters.length) = some 2 by decide +kernel)⟩ ⟨(Nat.le_of_ble_eq_true rfl), (Nat.le_of_ble_eq_true rfl)⟩ ⟨(Nat.le_of_ble_eq_true rfl), (Nat.le_of_ble_eq_true rfl)⟩ hl.1 rfl (Nat.le_of_ble_eq_true rfl) dw_794 (fun σM1 H locs hM1 h hS => ?_)
  exact lv_icmp_eq C.1.1 C.1.2.1 dw_797 rfl (fun _ => kk _ _ _ _ _ _ hC1 hM1 h hS hl) (fun hn => absurd rfl hn)
theorem lwc_22 (C : LC p s m c g z aC b L xs) (hi : i + 6 ≤ L) {A : AS} {σC σM : qw_M} {H : Heap} {locs : List Loc} {lsA : Array Slot} (hC : KC σC A) (hM : KM σM A) (h : nWd g z (nLW g aC aM σC σM) H) (hS : nSt z s H locs) (hl : lv_has lsA 4 [(3, .int (nI i)), (2, .ref (aM 0)), (1, .ref (aC 0)), (0, .ref b)]) (kk : LN p l e s m below meth c Qf g z aC aM b i) : W p l e room_1 s m #[Value.ref b] below meth c H locs 600000 7302250 Qf (F0 m 802 lsA []) := by
  refine lv_aload_n C.1.1 C.1.2.1 dw_802 rfl (lv_at hl 2 rfl) ?_
  refine lv_aload_n C.1.1 C.1.2.1 dw_803 rfl (lv_at hl 3 rfl) ?_
  refine lv_iload_n C.1.1 C.1.2.1 dw_804 rfl (lv_at hl 0 rfl) ?_
  refine lv_iconst (v := nI 1) C.1.1 C.1.2.1 dw_805 rfl ?_
  refine lv_iadd C.1.1 C.1.2.1 dw_806 ?_
  refine va_sld C.1.1 C.1.2.1 C.2.2.1 C.2.2.2.1 C.2.2.2.2.1 hS (pk_in (i + 1) L (by omega) (nI_add i 1) (by have := C.2.2.2.2.2; omega)) dw_807 ?_
  refine lv_aload_n C.1.1 C.1.2.1 dw_808 rfl (lv_at hl 3 rfl) ?_
  refine lv_iload_n C.1.1 C.1.2.1 dw_809 rfl (lv_at hl 0 rfl) ?_
  refine lv_iconst (v := nI 2) C.1.1 C.1.2.1 dw_810 rfl ?_
  refine lv_iadd C.1.1 C.1.2.1 dw_811 ?_
  refine va_sld C.1.1 C.1.2.1 C.2.2.1 C.2.2.2.1 C.2.2.2.2.1 hS (pk_in (i + 2) L (by omega) (nI_add i 2) (by have := C.2.2.2.2.2; omega)) dw_812 ?_
  refine lv_aload_n C.1.1 C.1.2.1 dw_813 rfl (lv_at hl 3 rfl) ?_
  refine lv_iload_n C.1.1 C.1.2.1 dw_814 rfl (lv_at hl 0 rfl) ?_
  refine lv_iconst (v := nI 3) C.1.1 C.1.2.1 dw_815 rfl ?_
  refine lv_iadd C.1.1 C.1.2.1 dw_816 ?_
  refine va_sld C.1.1 C.1.2.1 C.2.2.1 C.2.2.2.1 C.2.2.2.2.1 hS (pk_in (i + 3) L (by omega) (nI_add i 3) (by have := C.2.2.2.2.2; omega)) dw_817 ?_
  have ht := c_seen hC (xs (nI i + nI 1).toNatClampNeg) (xs (nI i + nI 2).toNatClampNeg) (xs (nI i + nI 3).toNatClampNeg)
  refine n_lawC (rest := []) C.1 h hS C.2.1 ht (fun _ => rfl) (fun _ => rfl) rfl tz_890 tz_891 tz_892 tz_74 tz_893 ⟨by decide, by decide, (show (parseMethodDescriptor (qw_yn my_X11_seen).desc).map (fun d => d.parameters.length) = some 3 by decide +kernel)⟩ ⟨(Nat.le_of_ble_eq_true rfl), (Nat.le_of_ble_eq_true rfl)⟩ ⟨(Nat.le_of_ble_eq_true rfl), (Nat.le_of_ble_eq_true rfl)⟩ hl.1 rfl (Nat.le_of_ble_eq_true rfl) dw_818 (fun σC1 H locs hC1 h hS => ?_)
  refine lv_aload_n C.1.1 C.1.2.1 dw_821 rfl (lv_at hl 1 rfl) ?_
  refine lv_aload_n C.1.1 C.1.2.1 dw_822 rfl (lv_at hl 3 rfl) ?_
  refine lv_iload_n C.1.1 C.1.2.1 dw_823 rfl (lv_at hl 0 rfl) ?_
  refine lv_iconst (v := nI 1) C.1.1 C.1.2.1 dw_824 rfl ?_
  refine lv_iadd C.1.1 C.1.2.1 dw_825 ?_
  refine va_sld C.1.1 C.1.2.1 C.2.2.1 C.2.2.2.1 C.2.2.2.2.1 hS (pk_in (i + 1) L (by omega) (nI_add i 1) (by have := C.2.2.2.2.2; omega)) dw_826 ?_
  refine lv_aload_n C.1.1 C.1.2.1 dw_827 rfl (lv_at hl 3 rfl) ?_
  refine lv_iload_n C.1.1 C.1.2.1 dw_828 rfl (lv_at hl 0 rfl) ?_
  refine lv_iconst (v := nI 2) C.1.1 C.1.2.1 dw_829 rfl ?_
  refine lv_iadd C.1.1 C.1.2.1 dw_830 ?_
  refine va_sld C.1.1 C.1.2.1 C.2.2.1 C.2.2.2.1 C.2.2.2.2.1 hS (pk_in (i + 2) L (by omega) (nI_add i 2) (by have := C.2.2.2.2.2; omega)) dw_831 ?_
  refine lv_aload_n C.1.1 C.1.2.1 dw_832 rfl (lv_at hl 3 rfl) ?_
  refine lv_iload_n C.1.1 C.1.2.1 dw_833 rfl (lv_at hl 0 rfl) ?_
  refine lv_iconst (v := nI 3) C.1.1 C.1.2.1 dw_834 rfl ?_
  refine lv_iadd C.1.1 C.1.2.1 dw_835 ?_
  refine va_sld C.1.1 C.1.2.1 C.2.2.1 C.2.2.2.1 C.2.2.2.2.1 hS (pk_in (i + 3) L (by omega) (nI_add i 3) (by have := C.2.2.2.2.2; omega)) dw_836 ?_
  have ht := d_seen hM (xs (nI i + nI 1).toNatClampNeg) (xs (nI i + nI 2).toNatClampNeg) (xs (nI i + nI 3).toNatClampNeg)
  refine n_lawM (rest := [.int _]) C.1 h hS ht (fun _ => rfl) (fun _ => rfl) rfl tz_1514 tz_1515 tz_1516 tz_87 tz_1517 ⟨by decide, by decide, (show (parseMethodDescriptor (qw_yn my_X12_seen).desc).map (fun d => d.parameters.length) = some 3 by decide +kernel)⟩ ⟨(Nat.le_of_ble_eq_true rfl), (Nat.le_of_ble_eq_true rfl)⟩ ⟨(Nat.le_of_ble_eq_true rfl), (Nat.le_of_ble_eq_true rfl)⟩ hl.1 rfl (Nat.le_of_ble_eq_true rfl) dw_837 (fun σM1 H locs hM1 h hS => ?_)
  exact lv_icmp_eq C.1.1 C.1.2.1 dw_840 rfl (fun _ => kk _ _ _ _ _ _ hC1 hM1 h hS hl) (fun hn => absurd rfl hn)
theorem lwc_23 (C : LC p s m c g z aC b L xs) (hi : i + 6 ≤ L) {A : AS} {σC σM : qw_M} {H : Heap} {locs : List Loc} {lsA : Array Slot} (hC : KC σC A) (hM : KM σM A) (h : nWd g z (nLW g aC aM σC σM) H) (hS : nSt z s H locs) (hl : lv_has lsA 4 [(3, .int (nI i)), (2, .ref (aM 0)), (1, .ref (aC 0)), (0, .ref b)]) (kk : LN p l e s m below meth c Qf g z aC aM b i) : W p l e room_1 s m #[Value.ref b] below meth c H locs 600000 7302250 Qf (F0 m 845 lsA []) := by
  refine lv_aload_n C.1.1 C.1.2.1 dw_845 rfl (lv_at hl 2 rfl) ?_
  have ht := c_forget hC 
  refine n_lawC (rest := []) C.1 h hS C.2.1 ht (fun _ => rfl) (fun _ => rfl) rfl tz_899 tz_900 tz_901 tz_74 tz_902 ⟨by decide, by decide, (show (parseMethodDescriptor (qw_yn my_X11_forget).desc).map (fun d => d.parameters.length) = some 0 by decide +kernel)⟩ ⟨(Nat.le_of_ble_eq_true rfl), (Nat.le_of_ble_eq_true rfl)⟩ ⟨(Nat.le_of_ble_eq_true rfl), (Nat.le_of_ble_eq_true rfl)⟩ hl.1 rfl (Nat.le_of_ble_eq_true rfl) dw_846 (fun σC1 H locs hC1 h hS => ?_)
  refine lv_aload_n C.1.1 C.1.2.1 dw_849 rfl (lv_at hl 1 rfl) ?_
  have ht := d_forget hM 
  refine n_lawM (rest := [.int _]) C.1 h hS ht (fun _ => rfl) (fun _ => rfl) rfl tz_1519 tz_1520 tz_1521 tz_87 tz_1522 ⟨by decide, by decide, (show (parseMethodDescriptor (qw_yn my_X12_forget).desc).map (fun d => d.parameters.length) = some 0 by decide +kernel)⟩ ⟨(Nat.le_of_ble_eq_true rfl), (Nat.le_of_ble_eq_true rfl)⟩ ⟨(Nat.le_of_ble_eq_true rfl), (Nat.le_of_ble_eq_true rfl)⟩ hl.1 rfl (Nat.le_of_ble_eq_true rfl) dw_850 (fun σM1 H locs hM1 h hS => ?_)
  exact lv_icmp_eq C.1.1 C.1.2.1 dw_853 rfl (fun _ => kk _ _ _ _ _ _ hC1 hM1 h hS hl) (fun hn => absurd rfl hn)
theorem lwc_24 (C : LC p s m c g z aC b L xs) (hi : i + 6 ≤ L) {A : AS} {σC σM : qw_M} {H : Heap} {locs : List Loc} {lsA : Array Slot} (hC : KC σC A) (hM : KM σM A) (h : nWd g z (nLW g aC aM σC σM) H) (hS : nSt z s H locs) (hl : lv_has lsA 4 [(3, .int (nI i)), (2, .ref (aM 0)), (1, .ref (aC 0)), (0, .ref b)]) (kk : LN p l e s m below meth c Qf g z aC aM b i) : W p l e room_1 s m #[Value.ref b] below meth c H locs 600000 7302250 Qf (F0 m 858 lsA []) := by
  refine lv_aload_n C.1.1 C.1.2.1 dw_858 rfl (lv_at hl 2 rfl) ?_
  have ht := c_never hC 
  refine n_lawC (rest := []) C.1 h hS C.2.1 ht (fun _ => rfl) (fun _ => rfl) rfl tz_903 tz_904 tz_905 tz_74 tz_906 ⟨by decide, by decide, (show (parseMethodDescriptor (qw_yn my_X11_never).desc).map (fun d => d.parameters.length) = some 0 by decide +kernel)⟩ ⟨(Nat.le_of_ble_eq_true rfl), (Nat.le_of_ble_eq_true rfl)⟩ ⟨(Nat.le_of_ble_eq_true rfl), (Nat.le_of_ble_eq_true rfl)⟩ hl.1 rfl (Nat.le_of_ble_eq_true rfl) dw_859 (fun σC1 H locs hC1 h hS => ?_)
  refine lv_aload_n C.1.1 C.1.2.1 dw_862 rfl (lv_at hl 1 rfl) ?_
  have ht := d_never hM 
  refine n_lawM (rest := [.int _]) C.1 h hS ht (fun _ => rfl) (fun _ => rfl) rfl tz_1523 tz_1524 tz_1525 tz_87 tz_1526 ⟨by decide, by decide, (show (parseMethodDescriptor (qw_yn my_X12_never).desc).map (fun d => d.parameters.length) = some 0 by decide +kernel)⟩ ⟨(Nat.le_of_ble_eq_true rfl), (Nat.le_of_ble_eq_true rfl)⟩ ⟨(Nat.le_of_ble_eq_true rfl), (Nat.le_of_ble_eq_true rfl)⟩ hl.1 rfl (Nat.le_of_ble_eq_true rfl) dw_863 (fun σM1 H locs hM1 h hS => ?_)
  exact lv_icmp_eq C.1.1 C.1.2.1 dw_866 rfl (fun _ => kk _ _ _ _ _ _ hC1 hM1 h hS hl) (fun hn => absurd rfl hn)
theorem lwc_25 (C : LC p s m c g z aC b L xs) (hi : i + 6 ≤ L) {A : AS} {σC σM : qw_M} {H : Heap} {locs : List Loc} {lsA : Array Slot} (hC : KC σC A) (hM : KM σM A) (h : nWd g z (nLW g aC aM σC σM) H) (hS : nSt z s H locs) (hl : lv_has lsA 4 [(3, .int (nI i)), (2, .ref (aM 0)), (1, .ref (aC 0)), (0, .ref b)]) (kk : LN p l e s m below meth c Qf g z aC aM b i) : W p l e room_1 s m #[Value.ref b] below meth c H locs 600000 7302250 Qf (F0 m 871 lsA []) := by
  refine lv_aload_n C.1.1 C.1.2.1 dw_871 rfl (lv_at hl 2 rfl) ?_
  refine lv_aload_n C.1.1 C.1.2.1 dw_872 rfl (lv_at hl 3 rfl) ?_
  refine lv_iload_n C.1.1 C.1.2.1 dw_873 rfl (lv_at hl 0 rfl) ?_
  refine lv_iconst (v := nI 1) C.1.1 C.1.2.1 dw_874 rfl ?_
  refine lv_iadd C.1.1 C.1.2.1 dw_875 ?_
  refine va_sld C.1.1 C.1.2.1 C.2.2.1 C.2.2.2.1 C.2.2.2.2.1 hS (pk_in (i + 1) L (by omega) (nI_add i 1) (by have := C.2.2.2.2.2; omega)) dw_876 ?_
  refine lv_aload_n C.1.1 C.1.2.1 dw_877 rfl (lv_at hl 3 rfl) ?_
  refine lv_iload_n C.1.1 C.1.2.1 dw_878 rfl (lv_at hl 0 rfl) ?_
  refine lv_iconst (v := nI 2) C.1.1 C.1.2.1 dw_879 rfl ?_
  refine lv_iadd C.1.1 C.1.2.1 dw_880 ?_
  refine va_sld C.1.1 C.1.2.1 C.2.2.1 C.2.2.2.1 C.2.2.2.2.1 hS (pk_in (i + 2) L (by omega) (nI_add i 2) (by have := C.2.2.2.2.2; omega)) dw_881 ?_
  have ht := c_was hC (xs (nI i + nI 1).toNatClampNeg) (xs (nI i + nI 2).toNatClampNeg)
  refine n_lawC (rest := []) C.1 h hS C.2.1 ht (fun _ => rfl) (fun _ => rfl) rfl tz_939 tz_940 tz_941 tz_74 tz_942 ⟨by decide, by decide, (show (parseMethodDescriptor (qw_yn my_X11_was).desc).map (fun d => d.parameters.length) = some 2 by decide +kernel)⟩ ⟨(Nat.le_of_ble_eq_true rfl), (Nat.le_of_ble_eq_true rfl)⟩ ⟨(Nat.le_of_ble_eq_true rfl), (Nat.le_of_ble_eq_true rfl)⟩ hl.1 rfl (Nat.le_of_ble_eq_true rfl) dw_882 (fun σC1 H locs hC1 h hS => ?_)
  refine lv_aload_n C.1.1 C.1.2.1 dw_885 rfl (lv_at hl 1 rfl) ?_
  refine lv_aload_n C.1.1 C.1.2.1 dw_886 rfl (lv_at hl 3 rfl) ?_
  refine lv_iload_n C.1.1 C.1.2.1 dw_887 rfl (lv_at hl 0 rfl) ?_
  refine lv_iconst (v := nI 1) C.1.1 C.1.2.1 dw_888 rfl ?_
  refine lv_iadd C.1.1 C.1.2.1 dw_889 ?_
  refine va_sld C.1.1 C.1.2.1 C.2.2.1 C.2.2.2.1 C.2.2.2.2.1 hS (pk_in (i + 1) L (by omega) (nI_add i 1) (by have := C.2.2.2.2.2; omega)) dw_890 ?_
  refine lv_aload_n C.1.1 C.1.2.1 dw_891 rfl (lv_at hl 3 rfl) ?_
  refine lv_iload_n C.1.1 C.1.2.1 dw_892 rfl (lv_at hl 0 rfl) ?_
  refine lv_iconst (v := nI 2) C.1.1 C.1.2.1 dw_893 rfl ?_
  refine lv_iadd C.1.1 C.1.2.1 dw_894 ?_
  refine va_sld C.1.1 C.1.2.1 C.2.2.1 C.2.2.2.1 C.2.2.2.2.1 hS (pk_in (i + 2) L (by omega) (nI_add i 2) (by have := C.2.2.2.2.2; omega)) dw_895 ?_
  have ht := d_was hM (xs (nI i + nI 1).toNatClampNeg) (xs (nI i + nI 2).toNatClampNeg)
  refine n_lawM (rest := [.int _]) C.1 h hS ht (fun _ => rfl) (fun _ => rfl) rfl tz_1535 tz_1536 tz_1537 tz_87 tz_1538 ⟨by decide, by decide, (show (parseMethodDescriptor (qw_yn my_X12_was).desc).map (fun d => d.parameters.length) = some 2 by decide +kernel)⟩ ⟨(Nat.le_of_ble_eq_true rfl), (Nat.le_of_ble_eq_true rfl)⟩ ⟨(Nat.le_of_ble_eq_true rfl), (Nat.le_of_ble_eq_true rfl)⟩ hl.1 rfl (Nat.le_of_ble_eq_true rfl) dw_896 (fun σM1 H locs hM1 h hS => ?_)
  exact lv_icmp_eq C.1.1 C.1.2.1 dw_899 rfl (fun _ => kk _ _ _ _ _ _ hC1 hM1 h hS hl) (fun hn => absurd rfl hn)
theorem lwc_26 (C : LC p s m c g z aC b L xs) (hi : i + 6 ≤ L) {A : AS} {σC σM : qw_M} {H : Heap} {locs : List Loc} {lsA : Array Slot} (hC : KC σC A) (hM : KM σM A) (h : nWd g z (nLW g aC aM σC σM) H) (hS : nSt z s H locs) (hl : lv_has lsA 4 [(3, .int (nI i)), (2, .ref (aM 0)), (1, .ref (aC 0)), (0, .ref b)]) (kk : LN p l e s m below meth c Qf g z aC aM b i) : W p l e room_1 s m #[Value.ref b] below meth c H locs 600000 7302250 Qf (F0 m 904 lsA []) := by
  refine lv_aload_n C.1.1 C.1.2.1 dw_904 rfl (lv_at hl 2 rfl) ?_
  refine lv_aload_n C.1.1 C.1.2.1 dw_905 rfl (lv_at hl 3 rfl) ?_
  refine lv_iload_n C.1.1 C.1.2.1 dw_906 rfl (lv_at hl 0 rfl) ?_
  refine lv_iconst (v := nI 1) C.1.1 C.1.2.1 dw_907 rfl ?_
  refine lv_iadd C.1.1 C.1.2.1 dw_908 ?_
  refine va_sld C.1.1 C.1.2.1 C.2.2.1 C.2.2.2.1 C.2.2.2.2.1 hS (pk_in (i + 1) L (by omega) (nI_add i 1) (by have := C.2.2.2.2.2; omega)) dw_909 ?_
  have ht := c_ask hC (xs (nI i + nI 1).toNatClampNeg)
  refine n_lawC (rest := []) C.1 h hS C.2.1 ht (fun _ => rfl) (fun _ => rfl) rfl tz_957 tz_958 tz_959 tz_74 tz_960 ⟨by decide, by decide, (show (parseMethodDescriptor (qw_yn my_X11_ask).desc).map (fun d => d.parameters.length) = some 1 by decide +kernel)⟩ ⟨(Nat.le_of_ble_eq_true rfl), (Nat.le_of_ble_eq_true rfl)⟩ ⟨(Nat.le_of_ble_eq_true rfl), (Nat.le_of_ble_eq_true rfl)⟩ hl.1 rfl (Nat.le_of_ble_eq_true rfl) dw_910 (fun σC1 H locs hC1 h hS => ?_)
  refine lv_aload_n C.1.1 C.1.2.1 dw_913 rfl (lv_at hl 1 rfl) ?_
  refine lv_aload_n C.1.1 C.1.2.1 dw_914 rfl (lv_at hl 3 rfl) ?_
  refine lv_iload_n C.1.1 C.1.2.1 dw_915 rfl (lv_at hl 0 rfl) ?_
  refine lv_iconst (v := nI 1) C.1.1 C.1.2.1 dw_916 rfl ?_
  refine lv_iadd C.1.1 C.1.2.1 dw_917 ?_
  refine va_sld C.1.1 C.1.2.1 C.2.2.1 C.2.2.2.1 C.2.2.2.2.1 hS (pk_in (i + 1) L (by omega) (nI_add i 1) (by have := C.2.2.2.2.2; omega)) dw_918 ?_
  have ht := d_ask hM (xs (nI i + nI 1).toNatClampNeg)
  refine n_lawM (rest := [.int _]) C.1 h hS ht (fun _ => rfl) (fun _ => rfl) rfl tz_1551 tz_1552 tz_1553 tz_87 tz_1554 ⟨by decide, by decide, (show (parseMethodDescriptor (qw_yn my_X12_ask).desc).map (fun d => d.parameters.length) = some 1 by decide +kernel)⟩ ⟨(Nat.le_of_ble_eq_true rfl), (Nat.le_of_ble_eq_true rfl)⟩ ⟨(Nat.le_of_ble_eq_true rfl), (Nat.le_of_ble_eq_true rfl)⟩ hl.1 rfl (Nat.le_of_ble_eq_true rfl) dw_919 (fun σM1 H locs hM1 h hS => ?_)
  exact lv_icmp_eq C.1.1 C.1.2.1 dw_922 rfl (fun _ => kk _ _ _ _ _ _ hC1 hM1 h hS hl) (fun hn => absurd rfl hn)
theorem lwc_27 (C : LC p s m c g z aC b L xs) (hi : i + 6 ≤ L) {A : AS} {σC σM : qw_M} {H : Heap} {locs : List Loc} {lsA : Array Slot} (hC : KC σC A) (hM : KM σM A) (h : nWd g z (nLW g aC aM σC σM) H) (hS : nSt z s H locs) (hl : lv_has lsA 4 [(3, .int (nI i)), (2, .ref (aM 0)), (1, .ref (aC 0)), (0, .ref b)]) (kk : LN p l e s m below meth c Qf g z aC aM b i) : W p l e room_1 s m #[Value.ref b] below meth c H locs 600000 7302250 Qf (F0 m 927 lsA []) := by
  refine lv_aload_n C.1.1 C.1.2.1 dw_927 rfl (lv_at hl 2 rfl) ?_
  refine lv_aload_n C.1.1 C.1.2.1 dw_928 rfl (lv_at hl 3 rfl) ?_
  refine lv_iload_n C.1.1 C.1.2.1 dw_929 rfl (lv_at hl 0 rfl) ?_
  refine lv_iconst (v := nI 1) C.1.1 C.1.2.1 dw_930 rfl ?_
  refine lv_iadd C.1.1 C.1.2.1 dw_931 ?_
  refine va_sld C.1.1 C.1.2.1 C.2.2.1 C.2.2.2.1 C.2.2.2.2.1 hS (pk_in (i + 1) L (by omega) (nI_add i 1) (by have := C.2.2.2.2.2; omega)) dw_932 ?_
  refine lv_aload_n C.1.1 C.1.2.1 dw_933 rfl (lv_at hl 3 rfl) ?_
  refine lv_iload_n C.1.1 C.1.2.1 dw_934 rfl (lv_at hl 0 rfl) ?_
  refine lv_iconst (v := nI 2) C.1.1 C.1.2.1 dw_935 rfl ?_
  refine lv_iadd C.1.1 C.1.2.1 dw_936 ?_
  refine va_sld C.1.1 C.1.2.1 C.2.2.1 C.2.2.2.1 C.2.2.2.2.1 hS (pk_in (i + 2) L (by omega) (nI_add i 2) (by have := C.2.2.2.2.2; omega)) dw_937 ?_
  refine lv_aload_n C.1.1 C.1.2.1 dw_938 rfl (lv_at hl 3 rfl) ?_
  refine lv_iload_n C.1.1 C.1.2.1 dw_939 rfl (lv_at hl 0 rfl) ?_
  refine lv_iconst (v := nI 3) C.1.1 C.1.2.1 dw_940 rfl ?_
  refine lv_iadd C.1.1 C.1.2.1 dw_941 ?_
  refine va_sld C.1.1 C.1.2.1 C.2.2.1 C.2.2.2.1 C.2.2.2.2.1 hS (pk_in (i + 3) L (by omega) (nI_add i 3) (by have := C.2.2.2.2.2; omega)) dw_942 ?_
  refine lv_aload_n C.1.1 C.1.2.1 dw_943 rfl (lv_at hl 3 rfl) ?_
  refine lv_iload_n C.1.1 C.1.2.1 dw_944 rfl (lv_at hl 0 rfl) ?_
  refine lv_iconst (v := nI 4) C.1.1 C.1.2.1 dw_945 rfl ?_
  refine lv_iadd C.1.1 C.1.2.1 dw_946 ?_
  refine va_sld C.1.1 C.1.2.1 C.2.2.1 C.2.2.2.1 C.2.2.2.2.1 hS (pk_in (i + 4) L (by omega) (nI_add i 4) (by have := C.2.2.2.2.2; omega)) dw_947 ?_
  have ht := c_stumble hC (xs (nI i + nI 1).toNatClampNeg) (xs (nI i + nI 2).toNatClampNeg) (xs (nI i + nI 3).toNatClampNeg) (xs (nI i + nI 4).toNatClampNeg)
  refine n_lawC (rest := []) C.1 h hS C.2.1 ht (fun _ => rfl) (fun _ => rfl) rfl tz_971 tz_972 tz_973 tz_74 tz_974 ⟨by decide, by decide, (show (parseMethodDescriptor (qw_yn my_X11_stumble).desc).map (fun d => d.parameters.length) = some 4 by decide +kernel)⟩ ⟨(Nat.le_of_ble_eq_true rfl), (Nat.le_of_ble_eq_true rfl)⟩ ⟨(Nat.le_of_ble_eq_true rfl), (Nat.le_of_ble_eq_true rfl)⟩ hl.1 rfl (Nat.le_of_ble_eq_true rfl) dw_948 (fun σC1 H locs hC1 h hS => ?_)
  refine lv_aload_n C.1.1 C.1.2.1 dw_951 rfl (lv_at hl 1 rfl) ?_
  refine lv_aload_n C.1.1 C.1.2.1 dw_952 rfl (lv_at hl 3 rfl) ?_
  refine lv_iload_n C.1.1 C.1.2.1 dw_953 rfl (lv_at hl 0 rfl) ?_
  refine lv_iconst (v := nI 1) C.1.1 C.1.2.1 dw_954 rfl ?_
  refine lv_iadd C.1.1 C.1.2.1 dw_955 ?_
  refine va_sld C.1.1 C.1.2.1 C.2.2.1 C.2.2.2.1 C.2.2.2.2.1 hS (pk_in (i + 1) L (by omega) (nI_add i 1) (by have := C.2.2.2.2.2; omega)) dw_956 ?_
  refine lv_aload_n C.1.1 C.1.2.1 dw_957 rfl (lv_at hl 3 rfl) ?_
  refine lv_iload_n C.1.1 C.1.2.1 dw_958 rfl (lv_at hl 0 rfl) ?_
  refine lv_iconst (v := nI 2) C.1.1 C.1.2.1 dw_959 rfl ?_
  refine lv_iadd C.1.1 C.1.2.1 dw_960 ?_
  refine va_sld C.1.1 C.1.2.1 C.2.2.1 C.2.2.2.1 C.2.2.2.2.1 hS (pk_in (i + 2) L (by omega) (nI_add i 2) (by have := C.2.2.2.2.2; omega)) dw_961 ?_
  refine lv_aload_n C.1.1 C.1.2.1 dw_962 rfl (lv_at hl 3 rfl) ?_
  refine lv_iload_n C.1.1 C.1.2.1 dw_963 rfl (lv_at hl 0 rfl) ?_
  refine lv_iconst (v := nI 3) C.1.1 C.1.2.1 dw_964 rfl ?_
  refine lv_iadd C.1.1 C.1.2.1 dw_965 ?_
  refine va_sld C.1.1 C.1.2.1 C.2.2.1 C.2.2.2.1 C.2.2.2.2.1 hS (pk_in (i + 3) L (by omega) (nI_add i 3) (by have := C.2.2.2.2.2; omega)) dw_966 ?_
  refine lv_aload_n C.1.1 C.1.2.1 dw_967 rfl (lv_at hl 3 rfl) ?_
  refine lv_iload_n C.1.1 C.1.2.1 dw_968 rfl (lv_at hl 0 rfl) ?_
  refine lv_iconst (v := nI 4) C.1.1 C.1.2.1 dw_969 rfl ?_
  refine lv_iadd C.1.1 C.1.2.1 dw_970 ?_
  refine va_sld C.1.1 C.1.2.1 C.2.2.1 C.2.2.2.1 C.2.2.2.2.1 hS (pk_in (i + 4) L (by omega) (nI_add i 4) (by have := C.2.2.2.2.2; omega)) dw_971 ?_
  have ht := d_stumble hM (xs (nI i + nI 1).toNatClampNeg) (xs (nI i + nI 2).toNatClampNeg) (xs (nI i + nI 3).toNatClampNeg) (xs (nI i + nI 4).toNatClampNeg)
  refine n_lawM (rest := [.long _]) C.1 h hS ht (fun _ => rfl) (fun _ => rfl) rfl tz_1559 tz_1560 tz_1561 tz_87 tz_1562 ⟨by decide, by decide, (show (parseMethodDescriptor (qw_yn my_X12_stumble).desc).map (fun d => d.parameters.length) = some 4 by decide +kernel)⟩ ⟨(Nat.le_of_ble_eq_true rfl), (Nat.le_of_ble_eq_true rfl)⟩ ⟨(Nat.le_of_ble_eq_true rfl), (Nat.le_of_ble_eq_true rfl)⟩ hl.1 rfl (Nat.le_of_ble_eq_true rfl) dw_972 (fun σM1 H locs hM1 h hS => ?_)
  refine W.lcmp C.1.1 C.1.2.1 dw_975 ?_
  exact lv_if_eq C.1.1 C.1.2.1 dw_976 rfl (fun _ => kk _ _ _ _ _ _ hC1 hM1 h hS hl) (fun hn => absurd (lg_cmp_self _) hn)
theorem lwc_28 (C : LC p s m c g z aC b L xs) (hi : i + 6 ≤ L) {A : AS} {σC σM : qw_M} {H : Heap} {locs : List Loc} {lsA : Array Slot} (hC : KC σC A) (hM : KM σM A) (h : nWd g z (nLW g aC aM σC σM) H) (hS : nSt z s H locs) (hl : lv_has lsA 4 [(3, .int (nI i)), (2, .ref (aM 0)), (1, .ref (aC 0)), (0, .ref b)]) (kk : LN p l e s m below meth c Qf g z aC aM b i) : W p l e room_1 s m #[Value.ref b] below meth c H locs 600000 7302250 Qf (F0 m 981 lsA []) := by
  refine lv_aload_n C.1.1 C.1.2.1 dw_981 rfl (lv_at hl 2 rfl) ?_
  refine lv_aload_n C.1.1 C.1.2.1 dw_982 rfl (lv_at hl 3 rfl) ?_
  refine lv_iload_n C.1.1 C.1.2.1 dw_983 rfl (lv_at hl 0 rfl) ?_
  refine lv_iconst (v := nI 1) C.1.1 C.1.2.1 dw_984 rfl ?_
  refine lv_iadd C.1.1 C.1.2.1 dw_985 ?_
  refine va_sld C.1.1 C.1.2.1 C.2.2.1 C.2.2.2.1 C.2.2.2.2.1 hS (pk_in (i + 1) L (by omega) (nI_add i 1) (by have := C.2.2.2.2.2; omega)) dw_986 ?_
  refine lv_aload_n C.1.1 C.1.2.1 dw_987 rfl (lv_at hl 3 rfl) ?_
  refine lv_iload_n C.1.1 C.1.2.1 dw_988 rfl (lv_at hl 0 rfl) ?_
  refine lv_iconst (v := nI 2) C.1.1 C.1.2.1 dw_989 rfl ?_
  refine lv_iadd C.1.1 C.1.2.1 dw_990 ?_
  refine va_sld C.1.1 C.1.2.1 C.2.2.1 C.2.2.2.1 C.2.2.2.2.1 hS (pk_in (i + 2) L (by omega) (nI_add i 2) (by have := C.2.2.2.2.2; omega)) dw_991 ?_
  refine lv_aload_n C.1.1 C.1.2.1 dw_992 rfl (lv_at hl 3 rfl) ?_
  refine lv_iload_n C.1.1 C.1.2.1 dw_993 rfl (lv_at hl 0 rfl) ?_
  refine lv_iconst (v := nI 3) C.1.1 C.1.2.1 dw_994 rfl ?_
  refine lv_iadd C.1.1 C.1.2.1 dw_995 ?_
  refine va_sld C.1.1 C.1.2.1 C.2.2.1 C.2.2.2.1 C.2.2.2.2.1 hS (pk_in (i + 3) L (by omega) (nI_add i 3) (by have := C.2.2.2.2.2; omega)) dw_996 ?_
  have ht := c_play hC (xs (nI i + nI 1).toNatClampNeg) (xs (nI i + nI 2).toNatClampNeg) (xs (nI i + nI 3).toNatClampNeg)
  refine n_lawC (rest := []) C.1 h hS C.2.1 ht (fun _ => rfl) (fun _ => rfl) rfl tz_1005 tz_1006 tz_1007 tz_74 tz_1008 ⟨by decide, by decide, (show (parseMethodDescriptor (qw_yn my_X11_play).desc).map (fun d => d.parameters.length) = some 3 by decide +kernel)⟩ ⟨(Nat.le_of_ble_eq_true rfl), (Nat.le_of_ble_eq_true rfl)⟩ ⟨(Nat.le_of_ble_eq_true rfl), (Nat.le_of_ble_eq_true rfl)⟩ hl.1 rfl (Nat.le_of_ble_eq_true rfl) dw_997 (fun σC1 H locs hC1 h hS => ?_)
  refine lv_aload_n C.1.1 C.1.2.1 dw_1000 rfl (lv_at hl 1 rfl) ?_
  refine lv_aload_n C.1.1 C.1.2.1 dw_1001 rfl (lv_at hl 3 rfl) ?_
  refine lv_iload_n C.1.1 C.1.2.1 dw_1002 rfl (lv_at hl 0 rfl) ?_
  refine lv_iconst (v := nI 1) C.1.1 C.1.2.1 dw_1003 rfl ?_
  refine lv_iadd C.1.1 C.1.2.1 dw_1004 ?_
  refine va_sld C.1.1 C.1.2.1 C.2.2.1 C.2.2.2.1 C.2.2.2.2.1 hS (pk_in (i + 1) L (by omega) (nI_add i 1) (by have := C.2.2.2.2.2; omega)) dw_1005 ?_
  refine lv_aload_n C.1.1 C.1.2.1 dw_1006 rfl (lv_at hl 3 rfl) ?_
  refine lv_iload_n C.1.1 C.1.2.1 dw_1007 rfl (lv_at hl 0 rfl) ?_
  refine lv_iconst (v := nI 2) C.1.1 C.1.2.1 dw_1008 rfl ?_
  refine lv_iadd C.1.1 C.1.2.1 dw_1009 ?_
  refine va_sld C.1.1 C.1.2.1 C.2.2.1 C.2.2.2.1 C.2.2.2.2.1 hS (pk_in (i + 2) L (by omega) (nI_add i 2) (by have := C.2.2.2.2.2; omega)) dw_1010 ?_
  refine lv_aload_n C.1.1 C.1.2.1 dw_1011 rfl (lv_at hl 3 rfl) ?_
  refine lv_iload_n C.1.1 C.1.2.1 dw_1012 rfl (lv_at hl 0 rfl) ?_
  refine lv_iconst (v := nI 3) C.1.1 C.1.2.1 dw_1013 rfl ?_
  refine lv_iadd C.1.1 C.1.2.1 dw_1014 ?_
  refine va_sld C.1.1 C.1.2.1 C.2.2.1 C.2.2.2.1 C.2.2.2.2.1 hS (pk_in (i + 3) L (by omega) (nI_add i 3) (by have := C.2.2.2.2.2; omega)) dw_1015 ?_
  have ht := d_play hM (xs (nI i + nI 1).toNatClampNeg) (xs (nI i + nI 2).toNatClampNeg) (xs (nI i + nI 3).toNatClampNeg)
  refine n_lawM (rest := [.int _]) C.1 h hS ht (fun _ => rfl) (fun _ => rfl) rfl tz_1575 tz_1576 tz_1577 tz_87 tz_1578 ⟨by decide, by decide, (show (parseMethodDescriptor (qw_yn my_X12_play).desc).map (fun d => d.parameters.length) = some 3 by decide +kernel)⟩ ⟨(Nat.le_of_ble_eq_true rfl), (Nat.le_of_ble_eq_true rfl)⟩ ⟨(Nat.le_of_ble_eq_true rfl), (Nat.le_of_ble_eq_true rfl)⟩ hl.1 rfl (Nat.le_of_ble_eq_true rfl) dw_1016 (fun σM1 H locs hM1 h hS => ?_)
  exact lv_icmp_eq C.1.1 C.1.2.1 dw_1019 rfl (fun _ => kk _ _ _ _ _ _ hC1 hM1 h hS hl) (fun hn => absurd rfl hn)
theorem lwc_29 (C : LC p s m c g z aC b L xs) (hi : i + 6 ≤ L) {A : AS} {σC σM : qw_M} {H : Heap} {locs : List Loc} {lsA : Array Slot} (hC : KC σC A) (hM : KM σM A) (h : nWd g z (nLW g aC aM σC σM) H) (hS : nSt z s H locs) (hl : lv_has lsA 4 [(3, .int (nI i)), (2, .ref (aM 0)), (1, .ref (aC 0)), (0, .ref b)]) (kk : LN p l e s m below meth c Qf g z aC aM b i) : W p l e room_1 s m #[Value.ref b] below meth c H locs 600000 7302250 Qf (F0 m 1024 lsA []) := by
  refine lv_aload_n C.1.1 C.1.2.1 dw_1024 rfl (lv_at hl 2 rfl) ?_
  refine lv_aload_n C.1.1 C.1.2.1 dw_1025 rfl (lv_at hl 3 rfl) ?_
  refine lv_iload_n C.1.1 C.1.2.1 dw_1026 rfl (lv_at hl 0 rfl) ?_
  refine lv_iconst (v := nI 1) C.1.1 C.1.2.1 dw_1027 rfl ?_
  refine lv_iadd C.1.1 C.1.2.1 dw_1028 ?_
  refine va_sld C.1.1 C.1.2.1 C.2.2.1 C.2.2.2.1 C.2.2.2.2.1 hS (pk_in (i + 1) L (by omega) (nI_add i 1) (by have := C.2.2.2.2.2; omega)) dw_1029 ?_
  refine lv_aload_n C.1.1 C.1.2.1 dw_1030 rfl (lv_at hl 3 rfl) ?_
  refine lv_iload_n C.1.1 C.1.2.1 dw_1031 rfl (lv_at hl 0 rfl) ?_
  refine lv_iconst (v := nI 2) C.1.1 C.1.2.1 dw_1032 rfl ?_
  refine lv_iadd C.1.1 C.1.2.1 dw_1033 ?_
  refine va_sld C.1.1 C.1.2.1 C.2.2.1 C.2.2.2.1 C.2.2.2.2.1 hS (pk_in (i + 2) L (by omega) (nI_add i 2) (by have := C.2.2.2.2.2; omega)) dw_1034 ?_
  refine lv_aload_n C.1.1 C.1.2.1 dw_1035 rfl (lv_at hl 3 rfl) ?_
  refine lv_iload_n C.1.1 C.1.2.1 dw_1036 rfl (lv_at hl 0 rfl) ?_
  refine lv_iconst (v := nI 3) C.1.1 C.1.2.1 dw_1037 rfl ?_
  refine lv_iadd C.1.1 C.1.2.1 dw_1038 ?_
  refine va_sld C.1.1 C.1.2.1 C.2.2.1 C.2.2.2.1 C.2.2.2.2.1 hS (pk_in (i + 3) L (by omega) (nI_add i 3) (by have := C.2.2.2.2.2; omega)) dw_1039 ?_
  have ht := c_sheet hC (xs (nI i + nI 1).toNatClampNeg) (xs (nI i + nI 2).toNatClampNeg) (xs (nI i + nI 3).toNatClampNeg)
  refine n_lawC (rest := []) C.1 h hS C.2.1 ht (fun _ => rfl) (fun _ => rfl) rfl tz_1031 tz_1032 tz_1033 tz_74 tz_1034 ⟨by decide, by decide, (show (parseMethodDescriptor (qw_yn my_X11_sheet).desc).map (fun d => d.parameters.length) = some 3 by decide +kernel)⟩ ⟨(Nat.le_of_ble_eq_true rfl), (Nat.le_of_ble_eq_true rfl)⟩ ⟨(Nat.le_of_ble_eq_true rfl), (Nat.le_of_ble_eq_true rfl)⟩ hl.1 rfl (Nat.le_of_ble_eq_true rfl) dw_1040 (fun σC1 H locs hC1 h hS => ?_)
  refine lv_aload_n C.1.1 C.1.2.1 dw_1043 rfl (lv_at hl 1 rfl) ?_
  refine lv_aload_n C.1.1 C.1.2.1 dw_1044 rfl (lv_at hl 3 rfl) ?_
  refine lv_iload_n C.1.1 C.1.2.1 dw_1045 rfl (lv_at hl 0 rfl) ?_
  refine lv_iconst (v := nI 1) C.1.1 C.1.2.1 dw_1046 rfl ?_
  refine lv_iadd C.1.1 C.1.2.1 dw_1047 ?_
  refine va_sld C.1.1 C.1.2.1 C.2.2.1 C.2.2.2.1 C.2.2.2.2.1 hS (pk_in (i + 1) L (by omega) (nI_add i 1) (by have := C.2.2.2.2.2; omega)) dw_1048 ?_
  refine lv_aload_n C.1.1 C.1.2.1 dw_1049 rfl (lv_at hl 3 rfl) ?_
  refine lv_iload_n C.1.1 C.1.2.1 dw_1050 rfl (lv_at hl 0 rfl) ?_
  refine lv_iconst (v := nI 2) C.1.1 C.1.2.1 dw_1051 rfl ?_
  refine lv_iadd C.1.1 C.1.2.1 dw_1052 ?_
  refine va_sld C.1.1 C.1.2.1 C.2.2.1 C.2.2.2.1 C.2.2.2.2.1 hS (pk_in (i + 2) L (by omega) (nI_add i 2) (by have := C.2.2.2.2.2; omega)) dw_1053 ?_
  refine lv_aload_n C.1.1 C.1.2.1 dw_1054 rfl (lv_at hl 3 rfl) ?_
  refine lv_iload_n C.1.1 C.1.2.1 dw_1055 rfl (lv_at hl 0 rfl) ?_
  refine lv_iconst (v := nI 3) C.1.1 C.1.2.1 dw_1056 rfl ?_
  refine lv_iadd C.1.1 C.1.2.1 dw_1057 ?_
  refine va_sld C.1.1 C.1.2.1 C.2.2.1 C.2.2.2.1 C.2.2.2.2.1 hS (pk_in (i + 3) L (by omega) (nI_add i 3) (by have := C.2.2.2.2.2; omega)) dw_1058 ?_
  have ht := d_sheet hM (xs (nI i + nI 1).toNatClampNeg) (xs (nI i + nI 2).toNatClampNeg) (xs (nI i + nI 3).toNatClampNeg)
  refine n_lawM (rest := [.int _]) C.1 h hS ht (fun _ => rfl) (fun _ => rfl) rfl tz_1215 tz_1216 tz_1217 tz_87 tz_1218 ⟨by decide, by decide, (show (parseMethodDescriptor (qw_yn my_X12_sheet).desc).map (fun d => d.parameters.length) = some 3 by decide +kernel)⟩ ⟨(Nat.le_of_ble_eq_true rfl), (Nat.le_of_ble_eq_true rfl)⟩ ⟨(Nat.le_of_ble_eq_true rfl), (Nat.le_of_ble_eq_true rfl)⟩ hl.1 rfl (Nat.le_of_ble_eq_true rfl) dw_1059 (fun σM1 H locs hM1 h hS => ?_)
  exact lv_icmp_eq C.1.1 C.1.2.1 dw_1062 rfl (fun _ => kk _ _ _ _ _ _ hC1 hM1 h hS hl) (fun hn => absurd rfl hn)
theorem lwc_30 (C : LC p s m c g z aC b L xs) (hi : i + 6 ≤ L) {A : AS} {σC σM : qw_M} {H : Heap} {locs : List Loc} {lsA : Array Slot} (hC : KC σC A) (hM : KM σM A) (h : nWd g z (nLW g aC aM σC σM) H) (hS : nSt z s H locs) (hl : lv_has lsA 4 [(3, .int (nI i)), (2, .ref (aM 0)), (1, .ref (aC 0)), (0, .ref b)]) (kk : LN p l e s m below meth c Qf g z aC aM b i) : W p l e room_1 s m #[Value.ref b] below meth c H locs 600000 7302250 Qf (F0 m 1067 lsA []) := by
  refine lv_aload_n C.1.1 C.1.2.1 dw_1067 rfl (lv_at hl 2 rfl) ?_
  refine lv_aload_n C.1.1 C.1.2.1 dw_1068 rfl (lv_at hl 3 rfl) ?_
  refine lv_iload_n C.1.1 C.1.2.1 dw_1069 rfl (lv_at hl 0 rfl) ?_
  refine lv_iconst (v := nI 1) C.1.1 C.1.2.1 dw_1070 rfl ?_
  refine lv_iadd C.1.1 C.1.2.1 dw_1071 ?_
  refine va_sld C.1.1 C.1.2.1 C.2.2.1 C.2.2.2.1 C.2.2.2.2.1 hS (pk_in (i + 1) L (by omega) (nI_add i 1) (by have := C.2.2.2.2.2; omega)) dw_1072 ?_
  have ht := c_lose hC (xs (nI i + nI 1).toNatClampNeg)
  refine n_lawC (rest := []) C.1 h hS C.2.1 ht (fun _ => rfl) (fun _ => rfl) rfl tz_1040 tz_1041 tz_1042 tz_74 tz_1043 ⟨by decide, by decide, (show (parseMethodDescriptor (qw_yn my_X11_lose).desc).map (fun d => d.parameters.length) = some 1 by decide +kernel)⟩ ⟨(Nat.le_of_ble_eq_true rfl), (Nat.le_of_ble_eq_true rfl)⟩ ⟨(Nat.le_of_ble_eq_true rfl), (Nat.le_of_ble_eq_true rfl)⟩ hl.1 rfl (Nat.le_of_ble_eq_true rfl) dw_1073 (fun σC1 H locs hC1 h hS => ?_)
  refine lv_aload_n C.1.1 C.1.2.1 dw_1076 rfl (lv_at hl 1 rfl) ?_
  refine lv_aload_n C.1.1 C.1.2.1 dw_1077 rfl (lv_at hl 3 rfl) ?_
  refine lv_iload_n C.1.1 C.1.2.1 dw_1078 rfl (lv_at hl 0 rfl) ?_
  refine lv_iconst (v := nI 1) C.1.1 C.1.2.1 dw_1079 rfl ?_
  refine lv_iadd C.1.1 C.1.2.1 dw_1080 ?_
  refine va_sld C.1.1 C.1.2.1 C.2.2.1 C.2.2.2.1 C.2.2.2.2.1 hS (pk_in (i + 1) L (by omega) (nI_add i 1) (by have := C.2.2.2.2.2; omega)) dw_1081 ?_
  have ht := d_lose hM (xs (nI i + nI 1).toNatClampNeg)
  refine n_lawM (rest := [.int _]) C.1 h hS ht (fun _ => rfl) (fun _ => rfl) rfl tz_1231 tz_1232 tz_1233 tz_87 tz_1234 ⟨by decide, by decide, (show (parseMethodDescriptor (qw_yn my_X12_lose).desc).map (fun d => d.parameters.length) = some 1 by decide +kernel)⟩ ⟨(Nat.le_of_ble_eq_true rfl), (Nat.le_of_ble_eq_true rfl)⟩ ⟨(Nat.le_of_ble_eq_true rfl), (Nat.le_of_ble_eq_true rfl)⟩ hl.1 rfl (Nat.le_of_ble_eq_true rfl) dw_1082 (fun σM1 H locs hM1 h hS => ?_)
  exact lv_icmp_eq C.1.1 C.1.2.1 dw_1085 rfl (fun _ => kk _ _ _ _ _ _ hC1 hM1 h hS hl) (fun hn => absurd rfl hn)
theorem lwc_31 (C : LC p s m c g z aC b L xs) (hi : i + 6 ≤ L) {A : AS} {σC σM : qw_M} {H : Heap} {locs : List Loc} {lsA : Array Slot} (hC : KC σC A) (hM : KM σM A) (h : nWd g z (nLW g aC aM σC σM) H) (hS : nSt z s H locs) (hl : lv_has lsA 4 [(3, .int (nI i)), (2, .ref (aM 0)), (1, .ref (aC 0)), (0, .ref b)]) (kk : LN p l e s m below meth c Qf g z aC aM b i) : W p l e room_1 s m #[Value.ref b] below meth c H locs 600000 7302250 Qf (F0 m 1090 lsA []) := by
  refine lv_aload_n C.1.1 C.1.2.1 dw_1090 rfl (lv_at hl 2 rfl) ?_
  refine lv_aload_n C.1.1 C.1.2.1 dw_1091 rfl (lv_at hl 3 rfl) ?_
  refine lv_iload_n C.1.1 C.1.2.1 dw_1092 rfl (lv_at hl 0 rfl) ?_
  refine lv_iconst (v := nI 1) C.1.1 C.1.2.1 dw_1093 rfl ?_
  refine lv_iadd C.1.1 C.1.2.1 dw_1094 ?_
  refine va_sld C.1.1 C.1.2.1 C.2.2.1 C.2.2.2.1 C.2.2.2.2.1 hS (pk_in (i + 1) L (by omega) (nI_add i 1) (by have := C.2.2.2.2.2; omega)) dw_1095 ?_
  refine lv_aload_n C.1.1 C.1.2.1 dw_1096 rfl (lv_at hl 3 rfl) ?_
  refine lv_iload_n C.1.1 C.1.2.1 dw_1097 rfl (lv_at hl 0 rfl) ?_
  refine lv_iconst (v := nI 2) C.1.1 C.1.2.1 dw_1098 rfl ?_
  refine lv_iadd C.1.1 C.1.2.1 dw_1099 ?_
  refine va_sld C.1.1 C.1.2.1 C.2.2.1 C.2.2.2.1 C.2.2.2.2.1 hS (pk_in (i + 2) L (by omega) (nI_add i 2) (by have := C.2.2.2.2.2; omega)) dw_1100 ?_
  refine lv_aload_n C.1.1 C.1.2.1 dw_1101 rfl (lv_at hl 3 rfl) ?_
  refine lv_iload_n C.1.1 C.1.2.1 dw_1102 rfl (lv_at hl 0 rfl) ?_
  refine lv_iconst (v := nI 3) C.1.1 C.1.2.1 dw_1103 rfl ?_
  refine lv_iadd C.1.1 C.1.2.1 dw_1104 ?_
  refine va_sld C.1.1 C.1.2.1 C.2.2.1 C.2.2.2.1 C.2.2.2.2.1 hS (pk_in (i + 3) L (by omega) (nI_add i 3) (by have := C.2.2.2.2.2; omega)) dw_1105 ?_
  refine lv_aload_n C.1.1 C.1.2.1 dw_1106 rfl (lv_at hl 3 rfl) ?_
  refine lv_iload_n C.1.1 C.1.2.1 dw_1107 rfl (lv_at hl 0 rfl) ?_
  refine lv_iconst (v := nI 4) C.1.1 C.1.2.1 dw_1108 rfl ?_
  refine lv_iadd C.1.1 C.1.2.1 dw_1109 ?_
  refine va_sld C.1.1 C.1.2.1 C.2.2.1 C.2.2.2.1 C.2.2.2.2.1 hS (pk_in (i + 4) L (by omega) (nI_add i 4) (by have := C.2.2.2.2.2; omega)) dw_1110 ?_
  have ht := c_lay hC (xs (nI i + nI 1).toNatClampNeg) (xs (nI i + nI 2).toNatClampNeg) (xs (nI i + nI 3).toNatClampNeg) (xs (nI i + nI 4).toNatClampNeg)
  refine n_lawC (rest := []) C.1 h hS C.2.1 ht (fun _ => rfl) (fun _ => rfl) rfl tz_1048 tz_1049 tz_1050 tz_74 tz_1051 ⟨by decide, by decide, (show (parseMethodDescriptor (qw_yn my_X11_lay).desc).map (fun d => d.parameters.length) = some 4 by decide +kernel)⟩ ⟨(Nat.le_of_ble_eq_true rfl), (Nat.le_of_ble_eq_true rfl)⟩ ⟨(Nat.le_of_ble_eq_true rfl), (Nat.le_of_ble_eq_true rfl)⟩ hl.1 rfl (Nat.le_of_ble_eq_true rfl) dw_1111 (fun σC1 H locs hC1 h hS => ?_)
  refine lv_aload_n C.1.1 C.1.2.1 dw_1114 rfl (lv_at hl 1 rfl) ?_
  refine lv_aload_n C.1.1 C.1.2.1 dw_1115 rfl (lv_at hl 3 rfl) ?_
  refine lv_iload_n C.1.1 C.1.2.1 dw_1116 rfl (lv_at hl 0 rfl) ?_
  refine lv_iconst (v := nI 1) C.1.1 C.1.2.1 dw_1117 rfl ?_
  refine lv_iadd C.1.1 C.1.2.1 dw_1118 ?_
  refine va_sld C.1.1 C.1.2.1 C.2.2.1 C.2.2.2.1 C.2.2.2.2.1 hS (pk_in (i + 1) L (by omega) (nI_add i 1) (by have := C.2.2.2.2.2; omega)) dw_1119 ?_
  refine lv_aload_n C.1.1 C.1.2.1 dw_1120 rfl (lv_at hl 3 rfl) ?_
  refine lv_iload_n C.1.1 C.1.2.1 dw_1121 rfl (lv_at hl 0 rfl) ?_
  refine lv_iconst (v := nI 2) C.1.1 C.1.2.1 dw_1122 rfl ?_
  refine lv_iadd C.1.1 C.1.2.1 dw_1123 ?_
  refine va_sld C.1.1 C.1.2.1 C.2.2.1 C.2.2.2.1 C.2.2.2.2.1 hS (pk_in (i + 2) L (by omega) (nI_add i 2) (by have := C.2.2.2.2.2; omega)) dw_1124 ?_
  refine lv_aload_n C.1.1 C.1.2.1 dw_1125 rfl (lv_at hl 3 rfl) ?_
  refine lv_iload_n C.1.1 C.1.2.1 dw_1126 rfl (lv_at hl 0 rfl) ?_
  refine lv_iconst (v := nI 3) C.1.1 C.1.2.1 dw_1127 rfl ?_
  refine lv_iadd C.1.1 C.1.2.1 dw_1128 ?_
  refine va_sld C.1.1 C.1.2.1 C.2.2.1 C.2.2.2.1 C.2.2.2.2.1 hS (pk_in (i + 3) L (by omega) (nI_add i 3) (by have := C.2.2.2.2.2; omega)) dw_1129 ?_
  refine lv_aload_n C.1.1 C.1.2.1 dw_1130 rfl (lv_at hl 3 rfl) ?_
  refine lv_iload_n C.1.1 C.1.2.1 dw_1131 rfl (lv_at hl 0 rfl) ?_
  refine lv_iconst (v := nI 4) C.1.1 C.1.2.1 dw_1132 rfl ?_
  refine lv_iadd C.1.1 C.1.2.1 dw_1133 ?_
  refine va_sld C.1.1 C.1.2.1 C.2.2.1 C.2.2.2.1 C.2.2.2.2.1 hS (pk_in (i + 4) L (by omega) (nI_add i 4) (by have := C.2.2.2.2.2; omega)) dw_1134 ?_
  have ht := d_lay hM (xs (nI i + nI 1).toNatClampNeg) (xs (nI i + nI 2).toNatClampNeg) (xs (nI i + nI 3).toNatClampNeg) (xs (nI i + nI 4).toNatClampNeg)
  refine n_lawM (rest := [.int _]) C.1 h hS ht (fun _ => rfl) (fun _ => rfl) rfl tz_1235 tz_1236 tz_1237 tz_87 tz_1238 ⟨by decide, by decide, (show (parseMethodDescriptor (qw_yn my_X12_lay).desc).map (fun d => d.parameters.length) = some 4 by decide +kernel)⟩ ⟨(Nat.le_of_ble_eq_true rfl), (Nat.le_of_ble_eq_true rfl)⟩ ⟨(Nat.le_of_ble_eq_true rfl), (Nat.le_of_ble_eq_true rfl)⟩ hl.1 rfl (Nat.le_of_ble_eq_true rfl) dw_1135 (fun σM1 H locs hM1 h hS => ?_)
  exact lv_icmp_eq C.1.1 C.1.2.1 dw_1138 rfl (fun _ => kk _ _ _ _ _ _ hC1 hM1 h hS hl) (fun hn => absurd rfl hn)
theorem lwc_32 (C : LC p s m c g z aC b L xs) (hi : i + 6 ≤ L) {A : AS} {σC σM : qw_M} {H : Heap} {locs : List Loc} {lsA : Array Slot} (hC : KC σC A) (hM : KM σM A) (h : nWd g z (nLW g aC aM σC σM) H) (hS : nSt z s H locs) (hl : lv_has lsA 4 [(3, .int (nI i)), (2, .ref (aM 0)), (1, .ref (aC 0)), (0, .ref b)]) (kk : LN p l e s m below meth c Qf g z aC aM b i) : W p l e room_1 s m #[Value.ref b] below meth c H locs 600000 7302250 Qf (F0 m 1143 lsA []) := by
  refine lv_aload_n C.1.1 C.1.2.1 dw_1143 rfl (lv_at hl 2 rfl) ?_
  refine lv_aload_n C.1.1 C.1.2.1 dw_1144 rfl (lv_at hl 3 rfl) ?_
  refine lv_iload_n C.1.1 C.1.2.1 dw_1145 rfl (lv_at hl 0 rfl) ?_
  refine lv_iconst (v := nI 1) C.1.1 C.1.2.1 dw_1146 rfl ?_
  refine lv_iadd C.1.1 C.1.2.1 dw_1147 ?_
  refine va_sld C.1.1 C.1.2.1 C.2.2.1 C.2.2.2.1 C.2.2.2.2.1 hS (pk_in (i + 1) L (by omega) (nI_add i 1) (by have := C.2.2.2.2.2; omega)) dw_1148 ?_
  refine lv_aload_n C.1.1 C.1.2.1 dw_1149 rfl (lv_at hl 3 rfl) ?_
  refine lv_iload_n C.1.1 C.1.2.1 dw_1150 rfl (lv_at hl 0 rfl) ?_
  refine lv_iconst (v := nI 2) C.1.1 C.1.2.1 dw_1151 rfl ?_
  refine lv_iadd C.1.1 C.1.2.1 dw_1152 ?_
  refine va_sld C.1.1 C.1.2.1 C.2.2.1 C.2.2.2.1 C.2.2.2.2.1 hS (pk_in (i + 2) L (by omega) (nI_add i 2) (by have := C.2.2.2.2.2; omega)) dw_1153 ?_
  refine lv_aload_n C.1.1 C.1.2.1 dw_1154 rfl (lv_at hl 3 rfl) ?_
  refine lv_iload_n C.1.1 C.1.2.1 dw_1155 rfl (lv_at hl 0 rfl) ?_
  refine lv_iconst (v := nI 3) C.1.1 C.1.2.1 dw_1156 rfl ?_
  refine lv_iadd C.1.1 C.1.2.1 dw_1157 ?_
  refine va_sld C.1.1 C.1.2.1 C.2.2.1 C.2.2.2.1 C.2.2.2.2.1 hS (pk_in (i + 3) L (by omega) (nI_add i 3) (by have := C.2.2.2.2.2; omega)) dw_1158 ?_
  have ht := c_get hC (xs (nI i + nI 1).toNatClampNeg) (xs (nI i + nI 2).toNatClampNeg) (xs (nI i + nI 3).toNatClampNeg)
  refine n_lawC (rest := []) C.1 h hS C.2.1 ht (fun _ => rfl) (fun _ => rfl) rfl tz_1060 tz_1061 tz_1062 tz_74 tz_1063 ⟨by decide, by decide, (show (parseMethodDescriptor (qw_yn my_X11_get).desc).map (fun d => d.parameters.length) = some 3 by decide +kernel)⟩ ⟨(Nat.le_of_ble_eq_true rfl), (Nat.le_of_ble_eq_true rfl)⟩ ⟨(Nat.le_of_ble_eq_true rfl), (Nat.le_of_ble_eq_true rfl)⟩ hl.1 rfl (Nat.le_of_ble_eq_true rfl) dw_1159 (fun σC1 H locs hC1 h hS => ?_)
  refine lv_aload_n C.1.1 C.1.2.1 dw_1162 rfl (lv_at hl 1 rfl) ?_
  refine lv_aload_n C.1.1 C.1.2.1 dw_1163 rfl (lv_at hl 3 rfl) ?_
  refine lv_iload_n C.1.1 C.1.2.1 dw_1164 rfl (lv_at hl 0 rfl) ?_
  refine lv_iconst (v := nI 1) C.1.1 C.1.2.1 dw_1165 rfl ?_
  refine lv_iadd C.1.1 C.1.2.1 dw_1166 ?_
  refine va_sld C.1.1 C.1.2.1 C.2.2.1 C.2.2.2.1 C.2.2.2.2.1 hS (pk_in (i + 1) L (by omega) (nI_add i 1) (by have := C.2.2.2.2.2; omega)) dw_1167 ?_
  refine lv_aload_n C.1.1 C.1.2.1 dw_1168 rfl (lv_at hl 3 rfl) ?_
  refine lv_iload_n C.1.1 C.1.2.1 dw_1169 rfl (lv_at hl 0 rfl) ?_
  refine lv_iconst (v := nI 2) C.1.1 C.1.2.1 dw_1170 rfl ?_
  refine lv_iadd C.1.1 C.1.2.1 dw_1171 ?_
  refine va_sld C.1.1 C.1.2.1 C.2.2.1 C.2.2.2.1 C.2.2.2.2.1 hS (pk_in (i + 2) L (by omega) (nI_add i 2) (by have := C.2.2.2.2.2; omega)) dw_1172 ?_
  refine lv_aload_n C.1.1 C.1.2.1 dw_1173 rfl (lv_at hl 3 rfl) ?_
  refine lv_iload_n C.1.1 C.1.2.1 dw_1174 rfl (lv_at hl 0 rfl) ?_
  refine lv_iconst (v := nI 3) C.1.1 C.1.2.1 dw_1175 rfl ?_
  refine lv_iadd C.1.1 C.1.2.1 dw_1176 ?_
  refine va_sld C.1.1 C.1.2.1 C.2.2.1 C.2.2.2.1 C.2.2.2.2.1 hS (pk_in (i + 3) L (by omega) (nI_add i 3) (by have := C.2.2.2.2.2; omega)) dw_1177 ?_
  have ht := d_get hM (xs (nI i + nI 1).toNatClampNeg) (xs (nI i + nI 2).toNatClampNeg) (xs (nI i + nI 3).toNatClampNeg)
  refine n_lawM (rest := [.int _]) C.1 h hS ht (fun _ => rfl) (fun _ => rfl) rfl tz_1246 tz_1247 tz_1248 tz_87 tz_1249 ⟨by decide, by decide, (show (parseMethodDescriptor (qw_yn my_X12_get).desc).map (fun d => d.parameters.length) = some 3 by decide +kernel)⟩ ⟨(Nat.le_of_ble_eq_true rfl), (Nat.le_of_ble_eq_true rfl)⟩ ⟨(Nat.le_of_ble_eq_true rfl), (Nat.le_of_ble_eq_true rfl)⟩ hl.1 rfl (Nat.le_of_ble_eq_true rfl) dw_1178 (fun σM1 H locs hM1 h hS => ?_)
  exact lv_icmp_eq C.1.1 C.1.2.1 dw_1181 rfl (fun _ => kk _ _ _ _ _ _ hC1 hM1 h hS hl) (fun hn => absurd rfl hn)
theorem lwc_33 (C : LC p s m c g z aC b L xs) (hi : i + 6 ≤ L) {A : AS} {σC σM : qw_M} {H : Heap} {locs : List Loc} {lsA : Array Slot} (hC : KC σC A) (hM : KM σM A) (h : nWd g z (nLW g aC aM σC σM) H) (hS : nSt z s H locs) (hl : lv_has lsA 4 [(3, .int (nI i)), (2, .ref (aM 0)), (1, .ref (aC 0)), (0, .ref b)]) (kk : LN p l e s m below meth c Qf g z aC aM b i) : W p l e room_1 s m #[Value.ref b] below meth c H locs 600000 7302250 Qf (F0 m 1186 lsA []) := by
  refine lv_aload_n C.1.1 C.1.2.1 dw_1186 rfl (lv_at hl 2 rfl) ?_
  refine lv_aload_n C.1.1 C.1.2.1 dw_1187 rfl (lv_at hl 3 rfl) ?_
  refine lv_iload_n C.1.1 C.1.2.1 dw_1188 rfl (lv_at hl 0 rfl) ?_
  refine lv_iconst (v := nI 1) C.1.1 C.1.2.1 dw_1189 rfl ?_
  refine lv_iadd C.1.1 C.1.2.1 dw_1190 ?_
  refine va_sld C.1.1 C.1.2.1 C.2.2.1 C.2.2.2.1 C.2.2.2.2.1 hS (pk_in (i + 1) L (by omega) (nI_add i 1) (by have := C.2.2.2.2.2; omega)) dw_1191 ?_
  refine lv_aload_n C.1.1 C.1.2.1 dw_1192 rfl (lv_at hl 3 rfl) ?_
  refine lv_iload_n C.1.1 C.1.2.1 dw_1193 rfl (lv_at hl 0 rfl) ?_
  refine lv_iconst (v := nI 2) C.1.1 C.1.2.1 dw_1194 rfl ?_
  refine lv_iadd C.1.1 C.1.2.1 dw_1195 ?_
  refine va_sld C.1.1 C.1.2.1 C.2.2.1 C.2.2.2.1 C.2.2.2.2.1 hS (pk_in (i + 2) L (by omega) (nI_add i 2) (by have := C.2.2.2.2.2; omega)) dw_1196 ?_
  refine lv_aload_n C.1.1 C.1.2.1 dw_1197 rfl (lv_at hl 3 rfl) ?_
  refine lv_iload_n C.1.1 C.1.2.1 dw_1198 rfl (lv_at hl 0 rfl) ?_
  refine lv_iconst (v := nI 3) C.1.1 C.1.2.1 dw_1199 rfl ?_
  refine lv_iadd C.1.1 C.1.2.1 dw_1200 ?_
  refine va_sld C.1.1 C.1.2.1 C.2.2.1 C.2.2.2.1 C.2.2.2.2.1 hS (pk_in (i + 3) L (by omega) (nI_add i 3) (by have := C.2.2.2.2.2; omega)) dw_1201 ?_
  refine lv_aload_n C.1.1 C.1.2.1 dw_1202 rfl (lv_at hl 3 rfl) ?_
  refine lv_iload_n C.1.1 C.1.2.1 dw_1203 rfl (lv_at hl 0 rfl) ?_
  refine lv_iconst (v := nI 4) C.1.1 C.1.2.1 dw_1204 rfl ?_
  refine lv_iadd C.1.1 C.1.2.1 dw_1205 ?_
  refine va_sld C.1.1 C.1.2.1 C.2.2.1 C.2.2.2.1 C.2.2.2.2.1 hS (pk_in (i + 4) L (by omega) (nI_add i 4) (by have := C.2.2.2.2.2; omega)) dw_1206 ?_
  refine lv_aload_n C.1.1 C.1.2.1 dw_1207 rfl (lv_at hl 3 rfl) ?_
  refine lv_iload_n C.1.1 C.1.2.1 dw_1208 rfl (lv_at hl 0 rfl) ?_
  refine lv_iconst (v := nI 5) C.1.1 C.1.2.1 dw_1209 rfl ?_
  refine lv_iadd C.1.1 C.1.2.1 dw_1210 ?_
  refine va_sld C.1.1 C.1.2.1 C.2.2.1 C.2.2.2.1 C.2.2.2.2.1 hS (pk_in (i + 5) L (by omega) (nI_add i 5) (by have := C.2.2.2.2.2; omega)) dw_1211 ?_
  have ht := c_copy hC (xs (nI i + nI 1).toNatClampNeg) (xs (nI i + nI 2).toNatClampNeg) (xs (nI i + nI 3).toNatClampNeg) (xs (nI i + nI 4).toNatClampNeg) (xs (nI i + nI 5).toNatClampNeg)
  refine n_lawC (rest := []) C.1 h hS C.2.1 ht (fun _ => rfl) (fun _ => rfl) rfl tz_1065 tz_1066 tz_1067 tz_74 tz_1068 ⟨by decide, by decide, (show (parseMethodDescriptor (qw_yn my_X11_copy).desc).map (fun d => d.parameters.length) = some 5 by decide +kernel)⟩ ⟨(Nat.le_of_ble_eq_true rfl), (Nat.le_of_ble_eq_true rfl)⟩ ⟨(Nat.le_of_ble_eq_true rfl), (Nat.le_of_ble_eq_true rfl)⟩ hl.1 rfl (Nat.le_of_ble_eq_true rfl) dw_1212 (fun σC1 H locs hC1 h hS => ?_)
  refine lv_aload_n C.1.1 C.1.2.1 dw_1215 rfl (lv_at hl 1 rfl) ?_
  refine lv_aload_n C.1.1 C.1.2.1 dw_1216 rfl (lv_at hl 3 rfl) ?_
  refine lv_iload_n C.1.1 C.1.2.1 dw_1217 rfl (lv_at hl 0 rfl) ?_
  refine lv_iconst (v := nI 1) C.1.1 C.1.2.1 dw_1218 rfl ?_
  refine lv_iadd C.1.1 C.1.2.1 dw_1219 ?_
  refine va_sld C.1.1 C.1.2.1 C.2.2.1 C.2.2.2.1 C.2.2.2.2.1 hS (pk_in (i + 1) L (by omega) (nI_add i 1) (by have := C.2.2.2.2.2; omega)) dw_1220 ?_
  refine lv_aload_n C.1.1 C.1.2.1 dw_1221 rfl (lv_at hl 3 rfl) ?_
  refine lv_iload_n C.1.1 C.1.2.1 dw_1222 rfl (lv_at hl 0 rfl) ?_
  refine lv_iconst (v := nI 2) C.1.1 C.1.2.1 dw_1223 rfl ?_
  refine lv_iadd C.1.1 C.1.2.1 dw_1224 ?_
  refine va_sld C.1.1 C.1.2.1 C.2.2.1 C.2.2.2.1 C.2.2.2.2.1 hS (pk_in (i + 2) L (by omega) (nI_add i 2) (by have := C.2.2.2.2.2; omega)) dw_1225 ?_
  refine lv_aload_n C.1.1 C.1.2.1 dw_1226 rfl (lv_at hl 3 rfl) ?_
  refine lv_iload_n C.1.1 C.1.2.1 dw_1227 rfl (lv_at hl 0 rfl) ?_
  refine lv_iconst (v := nI 3) C.1.1 C.1.2.1 dw_1228 rfl ?_
  refine lv_iadd C.1.1 C.1.2.1 dw_1229 ?_
  refine va_sld C.1.1 C.1.2.1 C.2.2.1 C.2.2.2.1 C.2.2.2.2.1 hS (pk_in (i + 3) L (by omega) (nI_add i 3) (by have := C.2.2.2.2.2; omega)) dw_1230 ?_
  refine lv_aload_n C.1.1 C.1.2.1 dw_1231 rfl (lv_at hl 3 rfl) ?_
  refine lv_iload_n C.1.1 C.1.2.1 dw_1232 rfl (lv_at hl 0 rfl) ?_
  refine lv_iconst (v := nI 4) C.1.1 C.1.2.1 dw_1233 rfl ?_
  refine lv_iadd C.1.1 C.1.2.1 dw_1234 ?_
  refine va_sld C.1.1 C.1.2.1 C.2.2.1 C.2.2.2.1 C.2.2.2.2.1 hS (pk_in (i + 4) L (by omega) (nI_add i 4) (by have := C.2.2.2.2.2; omega)) dw_1235 ?_
  refine lv_aload_n C.1.1 C.1.2.1 dw_1236 rfl (lv_at hl 3 rfl) ?_
  refine lv_iload_n C.1.1 C.1.2.1 dw_1237 rfl (lv_at hl 0 rfl) ?_
  refine lv_iconst (v := nI 5) C.1.1 C.1.2.1 dw_1238 rfl ?_
  refine lv_iadd C.1.1 C.1.2.1 dw_1239 ?_
  refine va_sld C.1.1 C.1.2.1 C.2.2.1 C.2.2.2.1 C.2.2.2.2.1 hS (pk_in (i + 5) L (by omega) (nI_add i 5) (by have := C.2.2.2.2.2; omega)) dw_1240 ?_
  have ht := d_copy hM (xs (nI i + nI 1).toNatClampNeg) (xs (nI i + nI 2).toNatClampNeg) (xs (nI i + nI 3).toNatClampNeg) (xs (nI i + nI 4).toNatClampNeg) (xs (nI i + nI 5).toNatClampNeg)
  refine n_lawM (rest := [.int _]) C.1 h hS ht (fun _ => rfl) (fun _ => rfl) rfl tz_1251 tz_1252 tz_1253 tz_87 tz_1254 ⟨by decide, by decide, (show (parseMethodDescriptor (qw_yn my_X12_copy).desc).map (fun d => d.parameters.length) = some 5 by decide +kernel)⟩ ⟨(Nat.le_of_ble_eq_true rfl), (Nat.le_of_ble_eq_true rfl)⟩ ⟨(Nat.le_of_ble_eq_true rfl), (Nat.le_of_ble_eq_true rfl)⟩ hl.1 rfl (Nat.le_of_ble_eq_true rfl) dw_1241 (fun σM1 H locs hM1 h hS => ?_)
  exact lv_icmp_eq C.1.1 C.1.2.1 dw_1244 rfl (fun _ => kk _ _ _ _ _ _ hC1 hM1 h hS hl) (fun hn => absurd rfl hn)
theorem lwc_34 (C : LC p s m c g z aC b L xs) (hi : i + 6 ≤ L) {A : AS} {σC σM : qw_M} {H : Heap} {locs : List Loc} {lsA : Array Slot} (hC : KC σC A) (hM : KM σM A) (h : nWd g z (nLW g aC aM σC σM) H) (hS : nSt z s H locs) (hl : lv_has lsA 4 [(3, .int (nI i)), (2, .ref (aM 0)), (1, .ref (aC 0)), (0, .ref b)]) (kk : LN p l e s m below meth c Qf g z aC aM b i) : W p l e room_1 s m #[Value.ref b] below meth c H locs 600000 7302250 Qf (F0 m 1249 lsA []) := by
  refine lv_aload_n C.1.1 C.1.2.1 dw_1249 rfl (lv_at hl 2 rfl) ?_
  refine lv_aload_n C.1.1 C.1.2.1 dw_1250 rfl (lv_at hl 3 rfl) ?_
  refine lv_iload_n C.1.1 C.1.2.1 dw_1251 rfl (lv_at hl 0 rfl) ?_
  refine lv_iconst (v := nI 1) C.1.1 C.1.2.1 dw_1252 rfl ?_
  refine lv_iadd C.1.1 C.1.2.1 dw_1253 ?_
  refine va_sld C.1.1 C.1.2.1 C.2.2.1 C.2.2.2.1 C.2.2.2.2.1 hS (pk_in (i + 1) L (by omega) (nI_add i 1) (by have := C.2.2.2.2.2; omega)) dw_1254 ?_
  refine lv_aload_n C.1.1 C.1.2.1 dw_1255 rfl (lv_at hl 3 rfl) ?_
  refine lv_iload_n C.1.1 C.1.2.1 dw_1256 rfl (lv_at hl 0 rfl) ?_
  refine lv_iconst (v := nI 2) C.1.1 C.1.2.1 dw_1257 rfl ?_
  refine lv_iadd C.1.1 C.1.2.1 dw_1258 ?_
  refine va_sld C.1.1 C.1.2.1 C.2.2.1 C.2.2.2.1 C.2.2.2.2.1 hS (pk_in (i + 2) L (by omega) (nI_add i 2) (by have := C.2.2.2.2.2; omega)) dw_1259 ?_
  have ht := c_write hC (xs (nI i + nI 1).toNatClampNeg) (xs (nI i + nI 2).toNatClampNeg)
  refine n_lawC (rest := []) C.1 h hS C.2.1 ht (fun _ => rfl) (fun _ => rfl) rfl tz_1076 tz_1077 tz_1078 tz_74 tz_1079 ⟨by decide, by decide, (show (parseMethodDescriptor (qw_yn my_X11_write).desc).map (fun d => d.parameters.length) = some 2 by decide +kernel)⟩ ⟨(Nat.le_of_ble_eq_true rfl), (Nat.le_of_ble_eq_true rfl)⟩ ⟨(Nat.le_of_ble_eq_true rfl), (Nat.le_of_ble_eq_true rfl)⟩ hl.1 rfl (Nat.le_of_ble_eq_true rfl) dw_1260 (fun σC1 H locs hC1 h hS => ?_)
  refine lv_aload_n C.1.1 C.1.2.1 dw_1263 rfl (lv_at hl 1 rfl) ?_
  refine lv_aload_n C.1.1 C.1.2.1 dw_1264 rfl (lv_at hl 3 rfl) ?_
  refine lv_iload_n C.1.1 C.1.2.1 dw_1265 rfl (lv_at hl 0 rfl) ?_
  refine lv_iconst (v := nI 1) C.1.1 C.1.2.1 dw_1266 rfl ?_
  refine lv_iadd C.1.1 C.1.2.1 dw_1267 ?_
  refine va_sld C.1.1 C.1.2.1 C.2.2.1 C.2.2.2.1 C.2.2.2.2.1 hS (pk_in (i + 1) L (by omega) (nI_add i 1) (by have := C.2.2.2.2.2; omega)) dw_1268 ?_
  refine lv_aload_n C.1.1 C.1.2.1 dw_1269 rfl (lv_at hl 3 rfl) ?_
  refine lv_iload_n C.1.1 C.1.2.1 dw_1270 rfl (lv_at hl 0 rfl) ?_
  refine lv_iconst (v := nI 2) C.1.1 C.1.2.1 dw_1271 rfl ?_
  refine lv_iadd C.1.1 C.1.2.1 dw_1272 ?_
  refine va_sld C.1.1 C.1.2.1 C.2.2.1 C.2.2.2.1 C.2.2.2.2.1 hS (pk_in (i + 2) L (by omega) (nI_add i 2) (by have := C.2.2.2.2.2; omega)) dw_1273 ?_
  have ht := d_write hM (xs (nI i + nI 1).toNatClampNeg) (xs (nI i + nI 2).toNatClampNeg)
  refine n_lawM (rest := [.int _]) C.1 h hS ht (fun _ => rfl) (fun _ => rfl) rfl tz_1589 tz_1590 tz_1591 tz_87 tz_1592 ⟨by decide, by decide, (show (parseMethodDescriptor (qw_yn my_X12_write).desc).map (fun d => d.parameters.length) = some 2 by decide +kernel)⟩ ⟨(Nat.le_of_ble_eq_true rfl), (Nat.le_of_ble_eq_true rfl)⟩ ⟨(Nat.le_of_ble_eq_true rfl), (Nat.le_of_ble_eq_true rfl)⟩ hl.1 rfl (Nat.le_of_ble_eq_true rfl) dw_1274 (fun σM1 H locs hM1 h hS => ?_)
  exact lv_icmp_eq C.1.1 C.1.2.1 dw_1277 rfl (fun _ => kk _ _ _ _ _ _ hC1 hM1 h hS hl) (fun hn => absurd rfl hn)
theorem lwc_35 (C : LC p s m c g z aC b L xs) (hi : i + 6 ≤ L) {A : AS} {σC σM : qw_M} {H : Heap} {locs : List Loc} {lsA : Array Slot} (hC : KC σC A) (hM : KM σM A) (h : nWd g z (nLW g aC aM σC σM) H) (hS : nSt z s H locs) (hl : lv_has lsA 4 [(3, .int (nI i)), (2, .ref (aM 0)), (1, .ref (aC 0)), (0, .ref b)]) (kk : LN p l e s m below meth c Qf g z aC aM b i) : W p l e room_1 s m #[Value.ref b] below meth c H locs 600000 7302250 Qf (F0 m 1282 lsA []) := by
  refine lv_aload_n C.1.1 C.1.2.1 dw_1282 rfl (lv_at hl 2 rfl) ?_
  refine lv_aload_n C.1.1 C.1.2.1 dw_1283 rfl (lv_at hl 3 rfl) ?_
  refine lv_iload_n C.1.1 C.1.2.1 dw_1284 rfl (lv_at hl 0 rfl) ?_
  refine lv_iconst (v := nI 1) C.1.1 C.1.2.1 dw_1285 rfl ?_
  refine lv_iadd C.1.1 C.1.2.1 dw_1286 ?_
  refine va_sld C.1.1 C.1.2.1 C.2.2.1 C.2.2.2.1 C.2.2.2.2.1 hS (pk_in (i + 1) L (by omega) (nI_add i 1) (by have := C.2.2.2.2.2; omega)) dw_1287 ?_
  have ht := c_count hC (xs (nI i + nI 1).toNatClampNeg)
  refine n_lawC (rest := []) C.1 h hS C.2.1 ht (fun _ => rfl) (fun _ => rfl) rfl tz_1081 tz_1082 tz_1083 tz_74 tz_1084 ⟨by decide, by decide, (show (parseMethodDescriptor (qw_yn my_X11_count).desc).map (fun d => d.parameters.length) = some 1 by decide +kernel)⟩ ⟨(Nat.le_of_ble_eq_true rfl), (Nat.le_of_ble_eq_true rfl)⟩ ⟨(Nat.le_of_ble_eq_true rfl), (Nat.le_of_ble_eq_true rfl)⟩ hl.1 rfl (Nat.le_of_ble_eq_true rfl) dw_1288 (fun σC1 H locs hC1 h hS => ?_)
  refine lv_aload_n C.1.1 C.1.2.1 dw_1291 rfl (lv_at hl 1 rfl) ?_
  refine lv_aload_n C.1.1 C.1.2.1 dw_1292 rfl (lv_at hl 3 rfl) ?_
  refine lv_iload_n C.1.1 C.1.2.1 dw_1293 rfl (lv_at hl 0 rfl) ?_
  refine lv_iconst (v := nI 1) C.1.1 C.1.2.1 dw_1294 rfl ?_
  refine lv_iadd C.1.1 C.1.2.1 dw_1295 ?_
  refine va_sld C.1.1 C.1.2.1 C.2.2.1 C.2.2.2.1 C.2.2.2.2.1 hS (pk_in (i + 1) L (by omega) (nI_add i 1) (by have := C.2.2.2.2.2; omega)) dw_1296 ?_
  have ht := dcount hM (xs (nI i + nI 1).toNatClampNeg)
  refine n_lawM (rest := [.int _]) C.1 h hS ht (fun _ => rfl) (fun _ => rfl) rfl tz_1593 tz_1594 tz_1595 tz_87 tz_1596 ⟨by decide, by decide, (show (parseMethodDescriptor (qw_yn my_X12_count).desc).map (fun d => d.parameters.length) = some 1 by decide +kernel)⟩ ⟨(Nat.le_of_ble_eq_true rfl), (Nat.le_of_ble_eq_true rfl)⟩ ⟨(Nat.le_of_ble_eq_true rfl), (Nat.le_of_ble_eq_true rfl)⟩ hl.1 rfl (Nat.le_of_ble_eq_true rfl) dw_1297 (fun σM1 H locs hM1 h hS => ?_)
  exact lv_icmp_eq C.1.1 C.1.2.1 dw_1300 rfl (fun _ => kk _ _ _ _ _ _ hC1 hM1 h hS hl) (fun hn => absurd rfl hn)
theorem lwc_36 (C : LC p s m c g z aC b L xs) (hi : i + 6 ≤ L) {A : AS} {σC σM : qw_M} {H : Heap} {locs : List Loc} {lsA : Array Slot} (hC : KC σC A) (hM : KM σM A) (h : nWd g z (nLW g aC aM σC σM) H) (hS : nSt z s H locs) (hl : lv_has lsA 4 [(3, .int (nI i)), (2, .ref (aM 0)), (1, .ref (aC 0)), (0, .ref b)]) (kk : LN p l e s m below meth c Qf g z aC aM b i) : W p l e room_1 s m #[Value.ref b] below meth c H locs 600000 7302250 Qf (F0 m 1305 lsA []) := by
  refine lv_aload_n C.1.1 C.1.2.1 dw_1305 rfl (lv_at hl 2 rfl) ?_
  have ht := m_digest hC 
  refine n_lawC (rest := []) C.1 h hS C.2.1 ht (fun _ => rfl) (fun _ => rfl) rfl tz_1086 tz_1087 tz_1088 tz_74 tz_1089 ⟨by decide, by decide, (show (parseMethodDescriptor (qw_yn my_X11_digest).desc).map (fun d => d.parameters.length) = some 0 by decide +kernel)⟩ ⟨(Nat.le_of_ble_eq_true rfl), (Nat.le_of_ble_eq_true rfl)⟩ ⟨(Nat.le_of_ble_eq_true rfl), (Nat.le_of_ble_eq_true rfl)⟩ hl.1 rfl (Nat.le_of_ble_eq_true rfl) dw_1306 (fun σC1 H locs hC1 h hS => ?_)
  refine lv_aload_n C.1.1 C.1.2.1 dw_1309 rfl (lv_at hl 1 rfl) ?_
  have ht := d_digest hM 
  refine n_lawM (rest := [.long _]) C.1 h hS ht (fun _ => rfl) (fun _ => rfl) rfl tz_1601 tz_1602 tz_1603 tz_87 tz_1604 ⟨by decide, by decide, (show (parseMethodDescriptor (qw_yn my_X12_digest).desc).map (fun d => d.parameters.length) = some 0 by decide +kernel)⟩ ⟨(Nat.le_of_ble_eq_true rfl), (Nat.le_of_ble_eq_true rfl)⟩ ⟨(Nat.le_of_ble_eq_true rfl), (Nat.le_of_ble_eq_true rfl)⟩ hl.1 rfl (Nat.le_of_ble_eq_true rfl) dw_1310 (fun σM1 H locs hM1 h hS => ?_)
  refine W.lcmp C.1.1 C.1.2.1 dw_1313 ?_
  exact lv_if_eq C.1.1 C.1.2.1 dw_1314 rfl (fun _ => kk _ _ _ _ _ _ hC1 hM1 h hS hl) (fun hn => absurd (lg_cmp_self _) hn)
/-- a round -/
theorem lw_round (C : LC p s m c g z aC b L xs) (hi : i + 6 ≤ L) {A : AS} {σC σM : qw_M} {H : Heap} {locs : List Loc} {lsA : Array Slot} (hC : KC σC A) (hM : KM σM A) (h : nWd g z (nLW g aC aM σC σM) H) (hS : nSt z s H locs) (hl : lv_has lsA 4 [(3, .int (nI i)), (2, .ref (aM 0)), (1, .ref (aC 0)), (0, .ref b)]) (kk : LN p l e s m below meth c Qf g z aC aM b i) : W p l e room_1 s m #[Value.ref b] below meth c H locs 600000 7302250 Qf (F0 m 27 lsA []) := by
  have hL := C.2.2.2.2.2
  refine lv_aload_n C.1.1 C.1.2.1 dw_27 rfl (lv_at hl 3 rfl) ?_
  refine lv_iload_n C.1.1 C.1.2.1 dw_28 rfl (lv_at hl 0 rfl) ?_
  refine va_sld C.1.1 C.1.2.1 C.2.2.1 C.2.2.2.1 C.2.2.2.2.1 hS (nin i L (by omega) (by omega)) dw_29 ?_
  refine lv_bipush (v := nI 63) C.1.1 C.1.2.1 dw_30 (by decide +kernel) ?_
  refine lv_iand C.1.1 C.1.2.1 dw_32 ?_
  generalize (xs (nI i).toNatClampNeg &&& nI 63) = x
  by_cases hc : x.toInt < 0 ∨ 36 < x.toInt
  · exact lv_tableOut C.1.1 C.1.2.1 dw_33 hc rfl (kk _ _ _ _ _ _ hC hM h hS hl)
  · have h1 : ¬ x.toInt < 0 := fun y => hc (Or.inl y)
    have h2 : ¬ 36 < x.toInt := fun y => hc (Or.inr y)
    obtain ⟨j, hj⟩ : ∃ j : Nat, x.toInt = (j : Int) := ⟨x.toInt.toNat, by omega⟩
    have hj37 : j < 37 := by omega
    have ho : ∀ off : Int, (#[163, 196, 219, 242, 265, 298, 331, 354, 377, 400, 413, 436, 469, 502, 545, 578, 601, 624, 637, 680, 713, 736, 769, 812, 825, 838, 871, 894, 948, 991, 1034, 1057, 1110, 1153, 1216, 1249, 1272] : Array Int)[j]? = some off → (#[163, 196, 219, 242, 265, 298, 331, 354, 377, 400, 413, 436, 469, 502, 545, 578, 601, 624, 637, 680, 713, 736, 769, 812, 825, 838, 871, 894, 948, 991, 1034, 1057, 1110, 1153, 1216, 1249, 1272] : Array Int)[(x.toInt - 0).toNat]? = some off := fun off hof => by
      rw [hj, Int.sub_zero, Int.toNat_natCast]
      exact hof
    match j, hj37, ho with
    | 0, _, ho => exact lv_tableIn C.1.1 C.1.2.1 dw_33 h1 h2 (ho 163 rfl) (tgt := 196) rfl (lwc_0 C hi hC hM h hS hl kk)
    | 1, _, ho => exact lv_tableIn C.1.1 C.1.2.1 dw_33 h1 h2 (ho 196 rfl) (tgt := 229) rfl (lwc_1 C hi hC hM h hS hl kk)
    | 2, _, ho => exact lv_tableIn C.1.1 C.1.2.1 dw_33 h1 h2 (ho 219 rfl) (tgt := 252) rfl (lwc_2 C hi hC hM h hS hl kk)
    | 3, _, ho => exact lv_tableIn C.1.1 C.1.2.1 dw_33 h1 h2 (ho 242 rfl) (tgt := 275) rfl (lwc_3 C hi hC hM h hS hl kk)
    | 4, _, ho => exact lv_tableIn C.1.1 C.1.2.1 dw_33 h1 h2 (ho 265 rfl) (tgt := 298) rfl (lwc_4 C hi hC hM h hS hl kk)
    | 5, _, ho => exact lv_tableIn C.1.1 C.1.2.1 dw_33 h1 h2 (ho 298 rfl) (tgt := 331) rfl (lwc_5 C hi hC hM h hS hl kk)
    | 6, _, ho => exact lv_tableIn C.1.1 C.1.2.1 dw_33 h1 h2 (ho 331 rfl) (tgt := 364) rfl (lwc_6 C hi hC hM h hS hl kk)
    | 7, _, ho => exact lv_tableIn C.1.1 C.1.2.1 dw_33 h1 h2 (ho 354 rfl) (tgt := 387) rfl (lwc_7 C hi hC hM h hS hl kk)
    | 8, _, ho => exact lv_tableIn C.1.1 C.1.2.1 dw_33 h1 h2 (ho 377 rfl) (tgt := 410) rfl (lwc_8 C hi hC hM h hS hl kk)
    | 9, _, ho => exact lv_tableIn C.1.1 C.1.2.1 dw_33 h1 h2 (ho 400 rfl) (tgt := 433) rfl (lwc_9 C hi hC hM h hS hl kk)
    | 10, _, ho => exact lv_tableIn C.1.1 C.1.2.1 dw_33 h1 h2 (ho 413 rfl) (tgt := 446) rfl (lwc_10 C hi hC hM h hS hl kk)
    | 11, _, ho => exact lv_tableIn C.1.1 C.1.2.1 dw_33 h1 h2 (ho 436 rfl) (tgt := 469) rfl (lwc_11 C hi hC hM h hS hl kk)
    | 12, _, ho => exact lv_tableIn C.1.1 C.1.2.1 dw_33 h1 h2 (ho 469 rfl) (tgt := 502) rfl (lwc_12 C hi hC hM h hS hl kk)
    | 13, _, ho => exact lv_tableIn C.1.1 C.1.2.1 dw_33 h1 h2 (ho 502 rfl) (tgt := 535) rfl (lwc_13 C hi hC hM h hS hl kk)
    | 14, _, ho => exact lv_tableIn C.1.1 C.1.2.1 dw_33 h1 h2 (ho 545 rfl) (tgt := 578) rfl (lwc_14 C hi hC hM h hS hl kk)
    | 15, _, ho => exact lv_tableIn C.1.1 C.1.2.1 dw_33 h1 h2 (ho 578 rfl) (tgt := 611) rfl (lwc_15 C hi hC hM h hS hl kk)
    | 16, _, ho => exact lv_tableIn C.1.1 C.1.2.1 dw_33 h1 h2 (ho 601 rfl) (tgt := 634) rfl (lwc_16 C hi hC hM h hS hl kk)
    | 17, _, ho => exact lv_tableIn C.1.1 C.1.2.1 dw_33 h1 h2 (ho 624 rfl) (tgt := 657) rfl (lwc_17 C hi hC hM h hS hl kk)
    | 18, _, ho => exact lv_tableIn C.1.1 C.1.2.1 dw_33 h1 h2 (ho 637 rfl) (tgt := 670) rfl (lwc_18 C hi hC hM h hS hl kk)
    | 19, _, ho => exact lv_tableIn C.1.1 C.1.2.1 dw_33 h1 h2 (ho 680 rfl) (tgt := 713) rfl (lwc_19 C hi hC hM h hS hl kk)
    | 20, _, ho => exact lv_tableIn C.1.1 C.1.2.1 dw_33 h1 h2 (ho 713 rfl) (tgt := 746) rfl (lwc_20 C hi hC hM h hS hl kk)
    | 21, _, ho => exact lv_tableIn C.1.1 C.1.2.1 dw_33 h1 h2 (ho 736 rfl) (tgt := 769) rfl (lwc_21 C hi hC hM h hS hl kk)
    | 22, _, ho => exact lv_tableIn C.1.1 C.1.2.1 dw_33 h1 h2 (ho 769 rfl) (tgt := 802) rfl (lwc_22 C hi hC hM h hS hl kk)
    | 23, _, ho => exact lv_tableIn C.1.1 C.1.2.1 dw_33 h1 h2 (ho 812 rfl) (tgt := 845) rfl (lwc_23 C hi hC hM h hS hl kk)
    | 24, _, ho => exact lv_tableIn C.1.1 C.1.2.1 dw_33 h1 h2 (ho 825 rfl) (tgt := 858) rfl (lwc_24 C hi hC hM h hS hl kk)
    | 25, _, ho => exact lv_tableIn C.1.1 C.1.2.1 dw_33 h1 h2 (ho 838 rfl) (tgt := 871) rfl (lwc_25 C hi hC hM h hS hl kk)
    | 26, _, ho => exact lv_tableIn C.1.1 C.1.2.1 dw_33 h1 h2 (ho 871 rfl) (tgt := 904) rfl (lwc_26 C hi hC hM h hS hl kk)
    | 27, _, ho => exact lv_tableIn C.1.1 C.1.2.1 dw_33 h1 h2 (ho 894 rfl) (tgt := 927) rfl (lwc_27 C hi hC hM h hS hl kk)
    | 28, _, ho => exact lv_tableIn C.1.1 C.1.2.1 dw_33 h1 h2 (ho 948 rfl) (tgt := 981) rfl (lwc_28 C hi hC hM h hS hl kk)
    | 29, _, ho => exact lv_tableIn C.1.1 C.1.2.1 dw_33 h1 h2 (ho 991 rfl) (tgt := 1024) rfl (lwc_29 C hi hC hM h hS hl kk)
    | 30, _, ho => exact lv_tableIn C.1.1 C.1.2.1 dw_33 h1 h2 (ho 1034 rfl) (tgt := 1067) rfl (lwc_30 C hi hC hM h hS hl kk)
    | 31, _, ho => exact lv_tableIn C.1.1 C.1.2.1 dw_33 h1 h2 (ho 1057 rfl) (tgt := 1090) rfl (lwc_31 C hi hC hM h hS hl kk)
    | 32, _, ho => exact lv_tableIn C.1.1 C.1.2.1 dw_33 h1 h2 (ho 1110 rfl) (tgt := 1143) rfl (lwc_32 C hi hC hM h hS hl kk)
    | 33, _, ho => exact lv_tableIn C.1.1 C.1.2.1 dw_33 h1 h2 (ho 1153 rfl) (tgt := 1186) rfl (lwc_33 C hi hC hM h hS hl kk)
    | 34, _, ho => exact lv_tableIn C.1.1 C.1.2.1 dw_33 h1 h2 (ho 1216 rfl) (tgt := 1249) rfl (lwc_34 C hi hC hM h hS hl kk)
    | 35, _, ho => exact lv_tableIn C.1.1 C.1.2.1 dw_33 h1 h2 (ho 1249 rfl) (tgt := 1282) rfl (lwc_35 C hi hC hM h hS hl kk)
    | 36, _, ho => exact lv_tableIn C.1.1 C.1.2.1 dw_33 h1 h2 (ho 1272 rfl) (tgt := 1305) rfl (lwc_36 C hi hC hM h hS hl kk)
    | k + 37, hk, _ => exact absurd hk (by omega)
theorem lw_loop (C : LC p s m c g s.heap.size aC b L xs) (hr : meth.sig.returnType = ret) (hlocks : meth.locks = false) : ∀ (n i : Nat) (A : AS) (σC σM : qw_M) (H : Heap) (locs : List Loc) (lsA : Array Slot), L ≤ i + 6 * n + 5 → i ≤ 1000 → KC σC A → KM σM A → nWd g s.heap.size (nLW g aC aM σC σM) H → nSt s.heap.size s H locs → lv_has lsA 4 [(3, .int (nI i)), (2, .ref (aM 0)), (1, .ref (aC 0)), (0, .ref b)] → W p l e room_1 s m #[Value.ref b] below meth c H locs 600000 7302250 (lw_Z below #[Value.ref b] s) (F0 m 18 lsA []) := by
  have hL := C.2.2.2.2.2
  intro n
  induction n with
  | zero =>
    intro i A σC σM H locs lsA hn hi hC hM h hS hl
    refine lv_iload_n C.1.1 C.1.2.1 dw_18 rfl (lv_at hl 0 rfl) ?_
    refine lv_aload_n C.1.1 C.1.2.1 dw_19 rfl (lv_at hl 3 rfl) ?_
    refine va_slen C.1.1 C.1.2.1 C.2.2.1 C.2.2.2.1 C.2.2.2.2.1 hS dw_20 ?_
    refine lv_bipush (v := nI 6) C.1.1 C.1.2.1 dw_21 (by decide +kernel) ?_
    refine lv_isub C.1.1 C.1.2.1 dw_23 ?_
    have hlt : nI L - nI 6 < nI i := by
      rw [Int32.lt_iff_toInt_lt, pk_sub_toInt (by omega) (by omega), nI_toInt (by omega)]
      omega
    refine lv_icmp_gt C.1.1 C.1.2.1 dw_24 rfl (fun _ => ?_) (fun hn => absurd hlt hn)
    refine lv_iconst (v := 1) C.1.1 C.1.2.1 dw_1325 rfl ?_
    exact va_forget (fun q hq => hS.2.2 q hq) (lw_ret C.1.1 C.1.2.1 hr hlocks dw_1326)
  | succ n ih =>
    intro i A σC σM H locs lsA hn hi hC hM h hS hl
    refine lv_iload_n C.1.1 C.1.2.1 dw_18 rfl (lv_at hl 0 rfl) ?_
    refine lv_aload_n C.1.1 C.1.2.1 dw_19 rfl (lv_at hl 3 rfl) ?_
    refine va_slen C.1.1 C.1.2.1 C.2.2.1 C.2.2.2.1 C.2.2.2.2.1 hS dw_20 ?_
    refine lv_bipush (v := nI 6) C.1.1 C.1.2.1 dw_21 (by decide +kernel) ?_
    refine lv_isub C.1.1 C.1.2.1 dw_23 ?_
    have hlt : nI L - nI 6 < nI i ↔ L < i + 6 := by
      rw [Int32.lt_iff_toInt_lt, pk_sub_toInt (by omega) (by omega), nI_toInt (by omega)]
      omega
    refine lv_icmp_gt C.1.1 C.1.2.1 dw_24 rfl (fun _ => ?_) (fun hn2 => ?_)
    · refine lv_iconst (v := 1) C.1.1 C.1.2.1 dw_1325 rfl ?_
      exact va_forget (fun q hq => hS.2.2 q hq) (lw_ret C.1.1 C.1.2.1 hr hlocks dw_1326)
    · have hi6 : i + 6 ≤ L := Nat.not_lt.mp fun y => hn2 (hlt.mpr y)
      refine lw_round C hi6 hC hM h hS hl (fun A σC σM H locs lsA hC hM h hS hl => ?_)
      refine lv_iinc (v := nI (i + 6)) C.1.1 C.1.2.1 dw_1319 hl (k := 0) rfl (nI_add i 6) (by decide) rfl (fun lsA hl => ?_)
      refine lv_goto C.1.1 C.1.2.1 dw_1322 rfl ?_
      exact ih (i + 6) A σC σM H locs lsA (by omega) (by omega) hC hM h hS hl
end LAWC
