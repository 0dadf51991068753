/-! WORDS: the good words of the tables, by their places. Written by wip/whole/words_rows.py -/
def sx_T : List Cond := lw_tbl.filter goodWord
theorem sx_tin (i : Nat) {w : Cond} (h : lw_tbl[i]? = some w) (hg : goodWord w = true) : w ∈ sx_T := List.mem_filter.mpr ⟨List.mem_of_getElem? h, hg⟩
theorem sx_good : GoodIn sx_T sx_T := fun w h => ⟨h, good_of_word (List.mem_filter.mp h).2⟩
theorem sx_T_tbl : ∀ w ∈ sx_T, w ∈ lw_tbl := fun _ h => (List.mem_filter.mp h).1
theorem sx_all1 {P : Cond → Prop} {a : Cond} {l : List Cond} (h : P a) (t : ∀ w ∈ l, P w) : ∀ w ∈ a :: l, P w := List.forall_mem_cons.mpr ⟨h, t⟩
theorem sx_all0 {P : Cond → Prop} : ∀ w ∈ ([] : List Cond), P w := fun _ h => absurd h List.not_mem_nil
set_option maxRecDepth 100000 in
theorem tw_0 : Cond.selects RX4 yX4_isAt yX4_isAt ∈ sx_T := sx_tin 0 rfl rfl
set_option maxRecDepth 100000 in
theorem tw_1 : Cond.selects RX3 yX3_beginSweep yX3_beginSweep ∈ sx_T := sx_tin 1 rfl rfl
set_option maxRecDepth 100000 in
theorem tw_2 : Cond.selects RX3 yX3_takeStep yX3_takeStep ∈ sx_T := sx_tin 2 rfl rfl
set_option maxRecDepth 100000 in
theorem tw_3 : Cond.selects RX3 yX3_endSweep yX3_endSweep ∈ sx_T := sx_tin 3 rfl rfl
set_option maxRecDepth 100000 in
theorem tw_5 : Cond.selects RX6 yX6_codeAt yX6_codeAt ∈ sx_T := sx_tin 5 rfl rfl
set_option maxRecDepth 100000 in
theorem tw_6 : Cond.selects RX3 yX3_makeFault yX3_makeFault ∈ sx_T := sx_tin 6 rfl rfl
set_option maxRecDepth 100000 in
theorem tw_7 : Cond.selects RX3 yX3_tieFault yX3_tieFault ∈ sx_T := sx_tin 7 rfl rfl
set_option maxRecDepth 100000 in
theorem tw_8 : Cond.selects RX3 yX3_stringFault yX3_stringFault ∈ sx_T := sx_tin 8 rfl rfl
set_option maxRecDepth 100000 in
theorem tw_9 : Cond.selects RX3 yX3_addPart yX3_addPart ∈ sx_T := sx_tin 9 rfl rfl
set_option maxRecDepth 100000 in
theorem tw_10 : Cond.selects RX3 yX3_addString yX3_addString ∈ sx_T := sx_tin 10 rfl rfl
set_option maxRecDepth 100000 in
theorem tw_11 : Cond.selects RX3 yX3_removeString yX3_removeString ∈ sx_T := sx_tin 11 rfl rfl
set_option maxRecDepth 100000 in
theorem tw_12 : Cond.selects RX3 yX3_setSound yX3_setSound ∈ sx_T := sx_tin 12 rfl rfl
set_option maxRecDepth 100000 in
theorem tw_13 : Cond.selects RX3 yX3_setPinned yX3_setPinned ∈ sx_T := sx_tin 13 rfl rfl
set_option maxRecDepth 100000 in
theorem tw_14 : Cond.selects RX6 yX6_thingAt yX6_thingAt ∈ sx_T := sx_tin 14 rfl rfl
set_option maxRecDepth 100000 in
theorem tw_15 : Cond.selects RX6 yX6_numberAt yX6_numberAt ∈ sx_T := sx_tin 15 rfl rfl
set_option maxRecDepth 100000 in
theorem tw_16 : Cond.selects RX7 yX7_act yX7_act ∈ sx_T := sx_tin 16 rfl rfl
set_option maxRecDepth 100000 in
theorem tw_17 : Cond.selects RX1 yX1_stateAt yX1_stateAt ∈ sx_T := sx_tin 17 rfl rfl
set_option maxRecDepth 100000 in
theorem tw_18 : Cond.selects RX0 yX0_findWay yX0_findWay ∈ sx_T := sx_tin 18 rfl rfl
set_option maxRecDepth 100000 in
theorem tw_19 : Cond.selects RX0 yX0_spread yX0_spread ∈ sx_T := sx_tin 19 rfl rfl
set_option maxRecDepth 100000 in
theorem tw_20 : Cond.selects RX0 yX0_isUsed yX0_isUsed ∈ sx_T := sx_tin 20 rfl rfl
set_option maxRecDepth 100000 in
theorem tw_21 : Cond.selects RX0 yX0_takeWay yX0_takeWay ∈ sx_T := sx_tin 21 rfl rfl
set_option maxRecDepth 100000 in
theorem tw_22 : Cond.selects RX4 yX4_firstAbove yX4_firstAbove ∈ sx_T := sx_tin 22 rfl rfl
set_option maxRecDepth 100000 in
theorem tw_23 : Cond.selects RX7 yX7_takeTurn yX7_takeTurn ∈ sx_T := sx_tin 23 rfl rfl
set_option maxRecDepth 100000 in
theorem tw_24 : Cond.selects RX8 yX8_refused yX8_refused ∈ sx_T := sx_tin 24 rfl rfl
set_option maxRecDepth 100000 in
theorem tw_25 : Cond.selects RX8 yX8_readText yX8_readText ∈ sx_T := sx_tin 25 rfl rfl
set_option maxRecDepth 100000 in
theorem tw_26 : Cond.selects RX8 yX8_isNext yX8_isNext ∈ sx_T := sx_tin 26 rfl rfl
set_option maxRecDepth 100000 in
theorem tw_27 : Cond.selects RX8 yX8_accept yX8_accept ∈ sx_T := sx_tin 27 rfl rfl
set_option maxRecDepth 100000 in
theorem tw_28 : Cond.selects RX8 yX8_readCommand yX8_readCommand ∈ sx_T := sx_tin 28 rfl rfl
set_option maxRecDepth 100000 in
theorem tw_29 : Cond.selects RX8 yX8_readMake yX8_readMake ∈ sx_T := sx_tin 29 rfl rfl
set_option maxRecDepth 100000 in
theorem tw_30 : Cond.selects RX8 yX8_digit yX8_digit ∈ sx_T := sx_tin 30 rfl rfl
set_option maxRecDepth 100000 in
theorem tw_31 : Cond.selects RX8 yX8_count yX8_count ∈ sx_T := sx_tin 31 rfl rfl
set_option maxRecDepth 100000 in
theorem tw_32 : Cond.selects RX8 yX8_readString yX8_readString ∈ sx_T := sx_tin 32 rfl rfl
set_option maxRecDepth 100000 in
theorem tw_33 : Cond.selects RX8 yX8_thingRead yX8_thingRead ∈ sx_T := sx_tin 33 rfl rfl
set_option maxRecDepth 100000 in
theorem tw_34 : Cond.selects RX8 yX8_partRead yX8_partRead ∈ sx_T := sx_tin 34 rfl rfl
set_option maxRecDepth 100000 in
theorem tw_35 : Cond.selects RX8 yX8_readPin yX8_readPin ∈ sx_T := sx_tin 35 rfl rfl
set_option maxRecDepth 100000 in
theorem tw_36 : Cond.selects RX8 yX8_readSweep yX8_readSweep ∈ sx_T := sx_tin 36 rfl rfl
set_option maxRecDepth 100000 in
theorem tw_37 : Cond.selects RX8 yX8_frayed yX8_frayed ∈ sx_T := sx_tin 37 rfl rfl
set_option maxRecDepth 100000 in
theorem tw_38 : Cond.selects RX8 yX8_pinned yX8_pinned ∈ sx_T := sx_tin 38 rfl rfl
set_option maxRecDepth 100000 in
theorem tw_39 : Cond.selects RX8 yX8_heldMany yX8_heldMany ∈ sx_T := sx_tin 39 rfl rfl
set_option maxRecDepth 100000 in
theorem tw_40 : Cond.selects RX8 yX8_lay yX8_lay ∈ sx_T := sx_tin 40 rfl rfl
set_option maxRecDepth 100000 in
theorem tw_41 : Cond.selects RX8 yX8_heldWeight yX8_heldWeight ∈ sx_T := sx_tin 41 rfl rfl
set_option maxRecDepth 100000 in
theorem tw_42 : Cond.selects RX8 yX8_deepest yX8_deepest ∈ sx_T := sx_tin 42 rfl rfl
set_option maxRecDepth 100000 in
theorem tw_43 : Cond.selects RX8 yX8_stringsOf yX8_stringsOf ∈ sx_T := sx_tin 43 rfl rfl
set_option maxRecDepth 100000 in
theorem tw_44 : Cond.selects RX8 yX8_tells yX8_tells ∈ sx_T := sx_tin 44 rfl rfl
set_option maxRecDepth 100000 in
theorem tw_45 : Cond.selects RX8 yX8_remember yX8_remember ∈ sx_T := sx_tin 45 rfl rfl
set_option maxRecDepth 100000 in
theorem tw_46 : Cond.selects RX8 yX8_foundString yX8_foundString ∈ sx_T := sx_tin 46 rfl rfl
set_option maxRecDepth 100000 in
theorem tw_47 : Cond.selects RX8 yX8_fallsBy yX8_fallsBy ∈ sx_T := sx_tin 47 rfl rfl
set_option maxRecDepth 100000 in
theorem tw_48 : Cond.selects RX8 yX8_tryIt yX8_tryIt ∈ sx_T := sx_tin 48 rfl rfl
set_option maxRecDepth 100000 in
theorem tw_49 : Cond.selects RX8 yX8_widen yX8_widen ∈ sx_T := sx_tin 49 rfl rfl
set_option maxRecDepth 100000 in
theorem tw_50 : Cond.selects RX8 yX8_isOnRing yX8_isOnRing ∈ sx_T := sx_tin 50 rfl rfl
set_option maxRecDepth 100000 in
theorem tw_51 : Cond.selects RX8 yX8_endTrial yX8_endTrial ∈ sx_T := sx_tin 51 rfl rfl
set_option maxRecDepth 100000 in
theorem tw_52 : Cond.selects RX8 yX8_aboveOf yX8_aboveOf ∈ sx_T := sx_tin 52 rfl rfl
set_option maxRecDepth 100000 in
theorem tw_53 : Cond.selects RX8 yX8_does yX8_does ∈ sx_T := sx_tin 53 rfl rfl
set_option maxRecDepth 100000 in
theorem tw_54 : Cond.selects RX8 yX8_makes yX8_makes ∈ sx_T := sx_tin 54 rfl rfl
set_option maxRecDepth 100000 in
theorem tw_55 : Cond.selects RX8 yX8_ties yX8_ties ∈ sx_T := sx_tin 55 rfl rfl
set_option maxRecDepth 100000 in
theorem tw_56 : Cond.selects RX8 yX8_cutsString yX8_cutsString ∈ sx_T := sx_tin 56 rfl rfl
set_option maxRecDepth 100000 in
theorem tw_57 : Cond.selects RX8 yX8_stringOf yX8_stringOf ∈ sx_T := sx_tin 57 rfl rfl
set_option maxRecDepth 100000 in
theorem tw_58 : Cond.selects RX8 yX8_pins yX8_pins ∈ sx_T := sx_tin 58 rfl rfl
set_option maxRecDepth 100000 in
theorem tw_59 : Cond.selects RX8 yX8_begins yX8_begins ∈ sx_T := sx_tin 59 rfl rfl
set_option maxRecDepth 100000 in
theorem tw_60 : Cond.selects RX8 yX8_steps yX8_steps ∈ sx_T := sx_tin 60 rfl rfl
set_option maxRecDepth 100000 in
theorem tw_61 : Cond.selects RX8 yX8_isHeld yX8_isHeld ∈ sx_T := sx_tin 61 rfl rfl
set_option maxRecDepth 100000 in
theorem tw_62 : Cond.selects RX8 yX8_stir yX8_stir ∈ sx_T := sx_tin 62 rfl rfl
set_option maxRecDepth 100000 in
theorem tw_63 : Cond.initialized "StringShedLaw" ∈ sx_T := sx_tin 63 rfl rfl
set_option maxRecDepth 100000 in
theorem tw_64 : Cond.initialized "StringShed" ∈ sx_T := sx_tin 64 rfl rfl
set_option maxRecDepth 100000 in
theorem tw_65 : Cond.initialized "StringShed$Shed" ∈ sx_T := sx_tin 65 rfl rfl
set_option maxRecDepth 100000 in
theorem tw_66 : Cond.initialized "StringShed$Strings" ∈ sx_T := sx_tin 66 rfl rfl
set_option maxRecDepth 100000 in
theorem tw_67 : Cond.initialized "StringShed$Sweep" ∈ sx_T := sx_tin 67 rfl rfl
set_option maxRecDepth 100000 in
theorem tw_68 : Cond.initialized "StringShed$Past" ∈ sx_T := sx_tin 68 rfl rfl
set_option maxRecDepth 100000 in
theorem tw_69 : Cond.initialized "StringShed$Text" ∈ sx_T := sx_tin 69 rfl rfl
set_option maxRecDepth 100000 in
theorem tw_70 : Cond.initialized "StringShed$Cutter" ∈ sx_T := sx_tin 70 rfl rfl
set_option maxRecDepth 100000 in
theorem tw_71 : Cond.initialized "StringShedModel" ∈ sx_T := sx_tin 71 rfl rfl
set_option maxRecDepth 100000 in
theorem tw_72 : Cond.initialized "java/lang/Throwable" ∈ sx_T := sx_tin 72 rfl rfl
set_option maxRecDepth 100000 in
theorem tw_73 : Cond.initialized "java/lang/Exception" ∈ sx_T := sx_tin 73 rfl rfl
set_option maxRecDepth 100000 in
theorem tw_74 : Cond.initialized "java/lang/RuntimeException" ∈ sx_T := sx_tin 74 rfl rfl
set_option maxRecDepth 100000 in
theorem tw_75 : Cond.initialized "java/lang/IllegalArgumentException" ∈ sx_T := sx_tin 75 rfl rfl
set_option maxRecDepth 100000 in
theorem tw_76 : Cond.initialized "java/lang/IllegalStateException" ∈ sx_T := sx_tin 76 rfl rfl
set_option maxRecDepth 100000 in
theorem tw_77 : Cond.initialized "java/lang/Integer" ∈ sx_T := sx_tin 77 rfl rfl
set_option maxRecDepth 100000 in
theorem tw_78 : Cond.initialized "java/lang/IndexOutOfBoundsException" ∈ sx_T := sx_tin 78 rfl rfl
set_option maxRecDepth 100000 in
theorem tw_79 : Cond.initialized "java/lang/Math" ∈ sx_T := sx_tin 79 rfl rfl
set_option maxRecDepth 100000 in
theorem tw_80 : Cond.initialized "StringShed$Script" ∈ sx_T := sx_tin 80 rfl rfl
set_option maxRecDepth 100000 in
theorem tw_81 : Jvm.Cond.classLink "StringShedLaw" (8 : Nat) "StringShed" ∈ sx_T := sx_tin 81 rfl rfl
set_option maxRecDepth 100000 in
theorem tw_82 : Jvm.Cond.instantiable "StringShed" (7 : Nat) ∈ sx_T := sx_tin 82 rfl rfl
set_option maxRecDepth 100000 in
theorem tw_83 : Cond.methodLink "StringShedLaw" 88 yX7_init ∈ sx_T := sx_tin 83 rfl rfl
set_option maxRecDepth 100000 in
theorem tw_84 : Cond.instanceMethod yX7_init ∈ sx_T := sx_tin 84 rfl rfl
set_option maxRecDepth 100000 in
theorem tw_85 : Jvm.Cond.code ({ cls := "StringShed", name := "<init>", desc := "()V" } : Jvm.MethodName) prog_1_method_1_code (2 : Nat) (Option.none : Option Jvm.ClassFile.FieldType) ∈ sx_T := sx_tin 85 rfl rfl
set_option maxRecDepth 100000 in
theorem tw_88 : Jvm.Cond.code ({ cls := "java/lang/Object", name := "<init>", desc := "()V" } : Jvm.MethodName) object_method_1_code (1 : Nat) (Option.none : Option Jvm.ClassFile.FieldType) ∈ sx_T := sx_tin 88 rfl rfl
set_option maxRecDepth 100000 in
theorem tw_89 : Jvm.Cond.classLink "StringShed" (9 : Nat) "StringShed$Shed" ∈ sx_T := sx_tin 89 rfl rfl
set_option maxRecDepth 100000 in
theorem tw_90 : Jvm.Cond.instantiable "StringShed$Shed" (8 : Nat) ∈ sx_T := sx_tin 90 rfl rfl
set_option maxRecDepth 100000 in
theorem tw_92 : Cond.instanceMethod yX3_init ∈ sx_T := sx_tin 92 rfl rfl
set_option maxRecDepth 100000 in
theorem tw_93 : Jvm.Cond.code ({ cls := "StringShed$Shed", name := "<init>", desc := "()V" } : Jvm.MethodName) prog_5_method_1_code (1 : Nat) (Option.none : Option Jvm.ClassFile.FieldType) ∈ sx_T := sx_tin 93 rfl rfl
set_option maxRecDepth 100000 in
theorem tw_95 : Jvm.Cond.classLink "StringShed$Shed" (9 : Nat) "StringShed$Strings" ∈ sx_T := sx_tin 95 rfl rfl
set_option maxRecDepth 100000 in
theorem tw_96 : Jvm.Cond.instantiable "StringShed$Strings" (4 : Nat) ∈ sx_T := sx_tin 96 rfl rfl
set_option maxRecDepth 100000 in
theorem tw_98 : Cond.instanceMethod yX4_init ∈ sx_T := sx_tin 98 rfl rfl
set_option maxRecDepth 100000 in
theorem tw_99 : Jvm.Cond.code ({ cls := "StringShed$Strings", name := "<init>", desc := "()V" } : Jvm.MethodName) prog_6_method_1_code (1 : Nat) (Option.none : Option Jvm.ClassFile.FieldType) ∈ sx_T := sx_tin 99 rfl rfl
set_option maxRecDepth 100000 in
theorem tw_101 : Cond.fieldLink "StringShed$Strings" 9 "StringShed$Strings" "above" "[I" ∈ sx_T := sx_tin 101 rfl rfl
set_option maxRecDepth 100000 in
theorem tw_102 : Cond.fieldLink "StringShed$Strings" 15 "StringShed$Strings" "below" "[I" ∈ sx_T := sx_tin 102 rfl rfl
set_option maxRecDepth 100000 in
theorem tw_103 : Cond.fieldLink "StringShed$Strings" 18 "StringShed$Strings" "sound" "[Z" ∈ sx_T := sx_tin 103 rfl rfl
set_option maxRecDepth 100000 in
theorem tw_104 : Cond.fieldLink "StringShed$Strings" 22 "StringShed$Strings" "count" "I" ∈ sx_T := sx_tin 104 rfl rfl
set_option maxRecDepth 100000 in
theorem tw_105 : Jvm.Cond.laysFinal "StringShed$Strings" "StringShed$Strings" "above" "[I" ∈ sx_T := sx_tin 105 rfl rfl
set_option maxRecDepth 100000 in
theorem tw_107 : Jvm.Cond.laysFinal "StringShed$Strings" "StringShed$Strings" "below" "[I" ∈ sx_T := sx_tin 107 rfl rfl
set_option maxRecDepth 100000 in
theorem tw_109 : Jvm.Cond.laysFinal "StringShed$Strings" "StringShed$Strings" "sound" "[Z" ∈ sx_T := sx_tin 109 rfl rfl
set_option maxRecDepth 100000 in
theorem tw_111 : Jvm.Cond.lays "StringShed$Strings" "StringShed$Strings" "count" "I" ∈ sx_T := sx_tin 111 rfl rfl
set_option maxRecDepth 100000 in
theorem tw_114 : Jvm.Cond.arrayClass Jvm.ClassFile.FieldType.int ∈ sx_T := sx_tin 114 rfl rfl
set_option maxRecDepth 100000 in
theorem tw_115 : Jvm.Cond.arrayClass Jvm.ClassFile.FieldType.boolean ∈ sx_T := sx_tin 115 rfl rfl
set_option maxRecDepth 100000 in
theorem tw_116 : Jvm.Cond.classLink "StringShed$Shed" (18 : Nat) "StringShed$Sweep" ∈ sx_T := sx_tin 116 rfl rfl
set_option maxRecDepth 100000 in
theorem tw_117 : Jvm.Cond.instantiable "StringShed$Sweep" (5 : Nat) ∈ sx_T := sx_tin 117 rfl rfl
set_option maxRecDepth 100000 in
theorem tw_119 : Cond.instanceMethod yX5_init ∈ sx_T := sx_tin 119 rfl rfl
set_option maxRecDepth 100000 in
theorem tw_120 : Jvm.Cond.code ({ cls := "StringShed$Sweep", name := "<init>", desc := "()V" } : Jvm.MethodName) prog_7_method_1_code (1 : Nat) (Option.none : Option Jvm.ClassFile.FieldType) ∈ sx_T := sx_tin 120 rfl rfl
set_option maxRecDepth 100000 in
theorem tw_122 : Cond.fieldLink "StringShed$Sweep" 9 "StringShed$Sweep" "row" "[I" ∈ sx_T := sx_tin 122 rfl rfl
set_option maxRecDepth 100000 in
theorem tw_123 : Cond.fieldLink "StringShed$Sweep" 15 "StringShed$Sweep" "grays" "I" ∈ sx_T := sx_tin 123 rfl rfl
set_option maxRecDepth 100000 in
theorem tw_124 : Cond.fieldLink "StringShed$Sweep" 19 "StringShed$Sweep" "white" "I" ∈ sx_T := sx_tin 124 rfl rfl
set_option maxRecDepth 100000 in
theorem tw_125 : Cond.fieldLink "StringShed$Sweep" 22 "StringShed$Sweep" "black" "I" ∈ sx_T := sx_tin 125 rfl rfl
set_option maxRecDepth 100000 in
theorem tw_126 : Cond.fieldLink "StringShed$Sweep" 25 "StringShed$Sweep" "going" "Z" ∈ sx_T := sx_tin 126 rfl rfl
set_option maxRecDepth 100000 in
theorem tw_127 : Jvm.Cond.laysFinal "StringShed$Sweep" "StringShed$Sweep" "row" "[I" ∈ sx_T := sx_tin 127 rfl rfl
set_option maxRecDepth 100000 in
theorem tw_129 : Jvm.Cond.lays "StringShed$Sweep" "StringShed$Sweep" "grays" "I" ∈ sx_T := sx_tin 129 rfl rfl
set_option maxRecDepth 100000 in
theorem tw_131 : Jvm.Cond.lays "StringShed$Sweep" "StringShed$Sweep" "white" "I" ∈ sx_T := sx_tin 131 rfl rfl
set_option maxRecDepth 100000 in
theorem tw_133 : Jvm.Cond.lays "StringShed$Sweep" "StringShed$Sweep" "black" "I" ∈ sx_T := sx_tin 133 rfl rfl
set_option maxRecDepth 100000 in
theorem tw_135 : Jvm.Cond.lays "StringShed$Sweep" "StringShed$Sweep" "going" "Z" ∈ sx_T := sx_tin 135 rfl rfl
set_option maxRecDepth 100000 in
theorem tw_138 : Cond.fieldLink "StringShed$Shed" 12 "StringShed$Shed" "strings" "LStringShed$Strings;" ∈ sx_T := sx_tin 138 rfl rfl
set_option maxRecDepth 100000 in
theorem tw_140 : Cond.fieldLink "StringShed$Shed" 21 "StringShed$Shed" "sweep" "LStringShed$Sweep;" ∈ sx_T := sx_tin 140 rfl rfl
set_option maxRecDepth 100000 in
theorem tw_143 : Cond.fieldLink "StringShed$Shed" 25 "StringShed$Shed" "weights" "[I" ∈ sx_T := sx_tin 143 rfl rfl
set_option maxRecDepth 100000 in
theorem tw_144 : Cond.fieldLink "StringShed$Shed" 29 "StringShed$Shed" "made" "I" ∈ sx_T := sx_tin 144 rfl rfl
set_option maxRecDepth 100000 in
theorem tw_145 : Cond.fieldLink "StringShed$Shed" 33 "StringShed$Shed" "there" "I" ∈ sx_T := sx_tin 145 rfl rfl
set_option maxRecDepth 100000 in
theorem tw_146 : Cond.fieldLink "StringShed$Shed" 36 "StringShed$Shed" "pinned" "I" ∈ sx_T := sx_tin 146 rfl rfl
set_option maxRecDepth 100000 in
theorem tw_147 : Cond.fieldLink "StringShed$Shed" 39 "StringShed$Shed" "sweepsEnded" "I" ∈ sx_T := sx_tin 147 rfl rfl
set_option maxRecDepth 100000 in
theorem tw_148 : Cond.fieldLink "StringShed$Shed" 42 "StringShed$Shed" "stringsGone" "I" ∈ sx_T := sx_tin 148 rfl rfl
set_option maxRecDepth 100000 in
theorem tw_149 : Jvm.Cond.laysFinal "StringShed$Shed" "StringShed$Shed" "strings" "LStringShed$Strings;" ∈ sx_T := sx_tin 149 rfl rfl
set_option maxRecDepth 100000 in
theorem tw_151 : Jvm.Cond.laysFinal "StringShed$Shed" "StringShed$Shed" "sweep" "LStringShed$Sweep;" ∈ sx_T := sx_tin 151 rfl rfl
set_option maxRecDepth 100000 in
theorem tw_153 : Jvm.Cond.laysFinal "StringShed$Shed" "StringShed$Shed" "weights" "[I" ∈ sx_T := sx_tin 153 rfl rfl
set_option maxRecDepth 100000 in
theorem tw_155 : Jvm.Cond.lays "StringShed$Shed" "StringShed$Shed" "made" "I" ∈ sx_T := sx_tin 155 rfl rfl
set_option maxRecDepth 100000 in
theorem tw_157 : Jvm.Cond.lays "StringShed$Shed" "StringShed$Shed" "there" "I" ∈ sx_T := sx_tin 157 rfl rfl
set_option maxRecDepth 100000 in
theorem tw_159 : Jvm.Cond.lays "StringShed$Shed" "StringShed$Shed" "pinned" "I" ∈ sx_T := sx_tin 159 rfl rfl
set_option maxRecDepth 100000 in
theorem tw_161 : Jvm.Cond.lays "StringShed$Shed" "StringShed$Shed" "sweepsEnded" "I" ∈ sx_T := sx_tin 161 rfl rfl
set_option maxRecDepth 100000 in
theorem tw_163 : Jvm.Cond.lays "StringShed$Shed" "StringShed$Shed" "stringsGone" "I" ∈ sx_T := sx_tin 163 rfl rfl
set_option maxRecDepth 100000 in
theorem tw_166 : Jvm.Cond.classLink "StringShed" (19 : Nat) "StringShed$Past" ∈ sx_T := sx_tin 166 rfl rfl
set_option maxRecDepth 100000 in
theorem tw_167 : Jvm.Cond.instantiable "StringShed$Past" (3 : Nat) ∈ sx_T := sx_tin 167 rfl rfl
set_option maxRecDepth 100000 in
theorem tw_168 : Cond.methodLink "StringShed" 21 yX1_init ∈ sx_T := sx_tin 168 rfl rfl
set_option maxRecDepth 100000 in
theorem tw_169 : Cond.instanceMethod yX1_init ∈ sx_T := sx_tin 169 rfl rfl
set_option maxRecDepth 100000 in
theorem tw_170 : Jvm.Cond.code ({ cls := "StringShed$Past", name := "<init>", desc := "()V" } : Jvm.MethodName) prog_3_method_1_code (2 : Nat) (Option.none : Option Jvm.ClassFile.FieldType) ∈ sx_T := sx_tin 170 rfl rfl
set_option maxRecDepth 100000 in
theorem tw_172 : Jvm.Cond.classLink "StringShed$Past" (9 : Nat) "StringShed$Shed" ∈ sx_T := sx_tin 172 rfl rfl
set_option maxRecDepth 100000 in
theorem tw_175 : Cond.fieldLink "StringShed$Past" 11 "StringShed$Past" "states" "[LStringShed$Shed;" ∈ sx_T := sx_tin 175 rfl rfl
set_option maxRecDepth 100000 in
theorem tw_176 : Cond.fieldLink "StringShed$Past" 17 "StringShed$Past" "oldest" "I" ∈ sx_T := sx_tin 176 rfl rfl
set_option maxRecDepth 100000 in
theorem tw_177 : Cond.fieldLink "StringShed$Past" 21 "StringShed$Past" "count" "I" ∈ sx_T := sx_tin 177 rfl rfl
set_option maxRecDepth 100000 in
theorem tw_178 : Jvm.Cond.laysFinal "StringShed$Past" "StringShed$Past" "states" "[LStringShed$Shed;" ∈ sx_T := sx_tin 178 rfl rfl
set_option maxRecDepth 100000 in
theorem tw_180 : Jvm.Cond.lays "StringShed$Past" "StringShed$Past" "oldest" "I" ∈ sx_T := sx_tin 180 rfl rfl
set_option maxRecDepth 100000 in
theorem tw_182 : Jvm.Cond.lays "StringShed$Past" "StringShed$Past" "count" "I" ∈ sx_T := sx_tin 182 rfl rfl
set_option maxRecDepth 100000 in
theorem tw_185 : Jvm.Cond.classLink "StringShed" (34 : Nat) "StringShed$Text" ∈ sx_T := sx_tin 185 rfl rfl
set_option maxRecDepth 100000 in
theorem tw_186 : Jvm.Cond.instantiable "StringShed$Text" (2 : Nat) ∈ sx_T := sx_tin 186 rfl rfl
set_option maxRecDepth 100000 in
theorem tw_188 : Cond.instanceMethod yX6_init ∈ sx_T := sx_tin 188 rfl rfl
set_option maxRecDepth 100000 in
theorem tw_189 : Jvm.Cond.code ({ cls := "StringShed$Text", name := "<init>", desc := "()V" } : Jvm.MethodName) prog_8_method_1_code (1 : Nat) (Option.none : Option Jvm.ClassFile.FieldType) ∈ sx_T := sx_tin 189 rfl rfl
set_option maxRecDepth 100000 in
theorem tw_191 : Cond.fieldLink "StringShed$Text" 9 "StringShed$Text" "codes" "[I" ∈ sx_T := sx_tin 191 rfl rfl
set_option maxRecDepth 100000 in
theorem tw_192 : Cond.fieldLink "StringShed$Text" 15 "StringShed$Text" "length" "I" ∈ sx_T := sx_tin 192 rfl rfl
set_option maxRecDepth 100000 in
theorem tw_193 : Jvm.Cond.laysFinal "StringShed$Text" "StringShed$Text" "codes" "[I" ∈ sx_T := sx_tin 193 rfl rfl
set_option maxRecDepth 100000 in
theorem tw_195 : Jvm.Cond.lays "StringShed$Text" "StringShed$Text" "length" "I" ∈ sx_T := sx_tin 195 rfl rfl
set_option maxRecDepth 100000 in
theorem tw_198 : Jvm.Cond.classLink "StringShed" (41 : Nat) "StringShed$Cutter" ∈ sx_T := sx_tin 198 rfl rfl
set_option maxRecDepth 100000 in
theorem tw_199 : Jvm.Cond.instantiable "StringShed$Cutter" (2 : Nat) ∈ sx_T := sx_tin 199 rfl rfl
set_option maxRecDepth 100000 in
theorem tw_201 : Cond.instanceMethod yX0_init ∈ sx_T := sx_tin 201 rfl rfl
set_option maxRecDepth 100000 in
theorem tw_202 : Jvm.Cond.code ({ cls := "StringShed$Cutter", name := "<init>", desc := "()V" } : Jvm.MethodName) prog_2_method_1_code (1 : Nat) (Option.none : Option Jvm.ClassFile.FieldType) ∈ sx_T := sx_tin 202 rfl rfl
set_option maxRecDepth 100000 in
theorem tw_204 : Cond.fieldLink "StringShed$Cutter" 9 "StringShed$Cutter" "via" "[I" ∈ sx_T := sx_tin 204 rfl rfl
set_option maxRecDepth 100000 in
theorem tw_205 : Cond.fieldLink "StringShed$Cutter" 15 "StringShed$Cutter" "used" "J" ∈ sx_T := sx_tin 205 rfl rfl
set_option maxRecDepth 100000 in
theorem tw_206 : Jvm.Cond.laysFinal "StringShed$Cutter" "StringShed$Cutter" "via" "[I" ∈ sx_T := sx_tin 206 rfl rfl
set_option maxRecDepth 100000 in
theorem tw_208 : Jvm.Cond.lays "StringShed$Cutter" "StringShed$Cutter" "used" "J" ∈ sx_T := sx_tin 208 rfl rfl
set_option maxRecDepth 100000 in
theorem tw_211 : Cond.fieldLink "StringShed" 12 "StringShed" "now" "LStringShed$Shed;" ∈ sx_T := sx_tin 211 rfl rfl
set_option maxRecDepth 100000 in
theorem tw_212 : Cond.fieldLink "StringShed" 16 "StringShed" "trial" "LStringShed$Shed;" ∈ sx_T := sx_tin 212 rfl rfl
set_option maxRecDepth 100000 in
theorem tw_213 : Cond.fieldLink "StringShed" 22 "StringShed" "past" "LStringShed$Past;" ∈ sx_T := sx_tin 213 rfl rfl
set_option maxRecDepth 100000 in
theorem tw_214 : Cond.fieldLink "StringShed" 26 "StringShed" "slots" "[LStringShed$Shed;" ∈ sx_T := sx_tin 214 rfl rfl
set_option maxRecDepth 100000 in
theorem tw_215 : Cond.fieldLink "StringShed" 30 "StringShed" "saved" "[Z" ∈ sx_T := sx_tin 215 rfl rfl
set_option maxRecDepth 100000 in
theorem tw_216 : Cond.fieldLink "StringShed" 37 "StringShed" "text" "LStringShed$Text;" ∈ sx_T := sx_tin 216 rfl rfl
set_option maxRecDepth 100000 in
theorem tw_217 : Cond.fieldLink "StringShed" 44 "StringShed" "cutter" "LStringShed$Cutter;" ∈ sx_T := sx_tin 217 rfl rfl
set_option maxRecDepth 100000 in
theorem tw_218 : Jvm.Cond.laysFinal "StringShed" "StringShed" "now" "LStringShed$Shed;" ∈ sx_T := sx_tin 218 rfl rfl
set_option maxRecDepth 100000 in
theorem tw_220 : Jvm.Cond.laysFinal "StringShed" "StringShed" "trial" "LStringShed$Shed;" ∈ sx_T := sx_tin 220 rfl rfl
set_option maxRecDepth 100000 in
theorem tw_222 : Jvm.Cond.laysFinal "StringShed" "StringShed" "past" "LStringShed$Past;" ∈ sx_T := sx_tin 222 rfl rfl
set_option maxRecDepth 100000 in
theorem tw_224 : Jvm.Cond.laysFinal "StringShed" "StringShed" "slots" "[LStringShed$Shed;" ∈ sx_T := sx_tin 224 rfl rfl
set_option maxRecDepth 100000 in
theorem tw_226 : Jvm.Cond.laysFinal "StringShed" "StringShed" "saved" "[Z" ∈ sx_T := sx_tin 226 rfl rfl
set_option maxRecDepth 100000 in
theorem tw_228 : Jvm.Cond.laysFinal "StringShed" "StringShed" "text" "LStringShed$Text;" ∈ sx_T := sx_tin 228 rfl rfl
set_option maxRecDepth 100000 in
theorem tw_230 : Jvm.Cond.laysFinal "StringShed" "StringShed" "cutter" "LStringShed$Cutter;" ∈ sx_T := sx_tin 230 rfl rfl
set_option maxRecDepth 100000 in
theorem tw_233 : Cond.methodLink "StringShedLaw" 101 yX7_clearText ∈ sx_T := sx_tin 233 rfl rfl
set_option maxRecDepth 100000 in
theorem tw_234 : Cond.instanceMethod yX7_clearText ∈ sx_T := sx_tin 234 rfl rfl
set_option maxRecDepth 100000 in
theorem tw_235 : Cond.selects RX7 yX7_clearText yX7_clearText ∈ sx_T := sx_tin 235 rfl rfl
set_option maxRecDepth 100000 in
theorem tw_236 : Jvm.Cond.code ({ cls := "StringShed", name := "clearText", desc := "()I" } : Jvm.MethodName) prog_1_method_3_code (1 : Nat) (Option.some Jvm.ClassFile.FieldType.int) ∈ sx_T := sx_tin 236 rfl rfl
set_option maxRecDepth 100000 in
theorem tw_237 : Cond.methodLink "StringShed" 68 yX6_empty ∈ sx_T := sx_tin 237 rfl rfl
set_option maxRecDepth 100000 in
theorem tw_238 : Cond.instanceMethod yX6_empty ∈ sx_T := sx_tin 238 rfl rfl
set_option maxRecDepth 100000 in
theorem tw_239 : Cond.selects RX6 yX6_empty yX6_empty ∈ sx_T := sx_tin 239 rfl rfl
set_option maxRecDepth 100000 in
theorem tw_240 : Jvm.Cond.code ({ cls := "StringShed$Text", name := "empty", desc := "()I" } : Jvm.MethodName) prog_8_method_5_code (2 : Nat) (Option.some Jvm.ClassFile.FieldType.int) ∈ sx_T := sx_tin 240 rfl rfl
set_option maxRecDepth 100000 in
theorem tw_241 : Cond.methodLink "StringShedLaw" 105 yX7_errorPosition ∈ sx_T := sx_tin 241 rfl rfl
set_option maxRecDepth 100000 in
theorem tw_242 : Cond.instanceMethod yX7_errorPosition ∈ sx_T := sx_tin 242 rfl rfl
set_option maxRecDepth 100000 in
theorem tw_243 : Cond.selects RX7 yX7_errorPosition yX7_errorPosition ∈ sx_T := sx_tin 243 rfl rfl
set_option maxRecDepth 100000 in
theorem tw_244 : Jvm.Cond.code ({ cls := "StringShed", name := "errorPosition", desc := "()I" } : Jvm.MethodName) prog_1_method_4_code (1 : Nat) (Option.some Jvm.ClassFile.FieldType.int) ∈ sx_T := sx_tin 244 rfl rfl
set_option maxRecDepth 100000 in
theorem tw_245 : Cond.methodLink "StringShed" 72 yX6_firstError ∈ sx_T := sx_tin 245 rfl rfl
set_option maxRecDepth 100000 in
theorem tw_246 : Cond.instanceMethod yX6_firstError ∈ sx_T := sx_tin 246 rfl rfl
set_option maxRecDepth 100000 in
theorem tw_247 : Cond.selects RX6 yX6_firstError yX6_firstError ∈ sx_T := sx_tin 247 rfl rfl
set_option maxRecDepth 100000 in
theorem tw_248 : Jvm.Cond.code ({ cls := "StringShed$Text", name := "firstError", desc := "()I" } : Jvm.MethodName) prog_8_method_6_code (3 : Nat) (Option.some Jvm.ClassFile.FieldType.int) ∈ sx_T := sx_tin 248 rfl rfl
set_option maxRecDepth 100000 in
theorem tw_249 : Cond.methodLink "StringShed$Text" 19 yX6_placeAfter ∈ sx_T := sx_tin 249 rfl rfl
set_option maxRecDepth 100000 in
theorem tw_250 : Cond.static yX6_placeAfter ∈ sx_T := sx_tin 250 rfl rfl
set_option maxRecDepth 100000 in
theorem tw_251 : Jvm.Cond.code ({ cls := "StringShed$Text", name := "placeAfter", desc := "(II)I" } : Jvm.MethodName) prog_8_method_7_code (2 : Nat) (Option.some Jvm.ClassFile.FieldType.int) ∈ sx_T := sx_tin 251 rfl rfl
set_option maxRecDepth 100000 in
theorem tw_252 : Cond.methodLink "StringShed$Text" 23 yX6_placeAfterLetter ∈ sx_T := sx_tin 252 rfl rfl
set_option maxRecDepth 100000 in
theorem tw_253 : Cond.static yX6_placeAfterLetter ∈ sx_T := sx_tin 253 rfl rfl
set_option maxRecDepth 100000 in
theorem tw_254 : Jvm.Cond.code ({ cls := "StringShed$Text", name := "placeAfterLetter", desc := "(I)I" } : Jvm.MethodName) prog_8_method_8_code (1 : Nat) (Option.some Jvm.ClassFile.FieldType.int) ∈ sx_T := sx_tin 254 rfl rfl
set_option maxRecDepth 100000 in
theorem tw_255 : Cond.methodLink "StringShed$Text" 27 yX6_ifBetween ∈ sx_T := sx_tin 255 rfl rfl
set_option maxRecDepth 100000 in
theorem tw_256 : Cond.static yX6_ifBetween ∈ sx_T := sx_tin 256 rfl rfl
set_option maxRecDepth 100000 in
theorem tw_257 : Jvm.Cond.code ({ cls := "StringShed$Text", name := "ifBetween", desc := "(IIII)I" } : Jvm.MethodName) prog_8_method_10_code (4 : Nat) (Option.some Jvm.ClassFile.FieldType.int) ∈ sx_T := sx_tin 257 rfl rfl
set_option maxRecDepth 100000 in
theorem tw_258 : Cond.methodLink "StringShed$Text" 31 yX6_placeAfterTens ∈ sx_T := sx_tin 258 rfl rfl
set_option maxRecDepth 100000 in
theorem tw_259 : Cond.static yX6_placeAfterTens ∈ sx_T := sx_tin 259 rfl rfl
set_option maxRecDepth 100000 in
theorem tw_260 : Jvm.Cond.code ({ cls := "StringShed$Text", name := "placeAfterTens", desc := "(III)I" } : Jvm.MethodName) prog_8_method_9_code (3 : Nat) (Option.some Jvm.ClassFile.FieldType.int) ∈ sx_T := sx_tin 260 rfl rfl
set_option maxRecDepth 100000 in
theorem tw_261 : Cond.methodLink "StringShedLaw" 161 yX7_heaviest ∈ sx_T := sx_tin 261 rfl rfl
set_option maxRecDepth 100000 in
theorem tw_262 : Cond.instanceMethod yX7_heaviest ∈ sx_T := sx_tin 262 rfl rfl
set_option maxRecDepth 100000 in
theorem tw_263 : Cond.selects RX7 yX7_heaviest yX7_heaviest ∈ sx_T := sx_tin 263 rfl rfl
set_option maxRecDepth 100000 in
theorem tw_264 : Jvm.Cond.code ({ cls := "StringShed", name := "heaviest", desc := "()I" } : Jvm.MethodName) prog_1_method_23_code (5 : Nat) (Option.some Jvm.ClassFile.FieldType.int) ∈ sx_T := sx_tin 264 rfl rfl
set_option maxRecDepth 100000 in
theorem tw_265 : Cond.methodLink "StringShed" 178 yX4_size ∈ sx_T := sx_tin 265 rfl rfl
set_option maxRecDepth 100000 in
theorem tw_266 : Cond.instanceMethod yX4_size ∈ sx_T := sx_tin 266 rfl rfl
set_option maxRecDepth 100000 in
theorem tw_267 : Cond.selects RX4 yX4_size yX4_size ∈ sx_T := sx_tin 267 rfl rfl
set_option maxRecDepth 100000 in
theorem tw_268 : Jvm.Cond.code ({ cls := "StringShed$Strings", name := "size", desc := "()I" } : Jvm.MethodName) prog_6_method_4_code (1 : Nat) (Option.some Jvm.ClassFile.FieldType.int) ∈ sx_T := sx_tin 268 rfl rfl
set_option maxRecDepth 100000 in
theorem tw_269 : Cond.methodLink "StringShed" 165 yX3_weightUnder ∈ sx_T := sx_tin 269 rfl rfl
set_option maxRecDepth 100000 in
theorem tw_270 : Cond.instanceMethod yX3_weightUnder ∈ sx_T := sx_tin 270 rfl rfl
set_option maxRecDepth 100000 in
theorem tw_271 : Cond.selects RX3 yX3_weightUnder yX3_weightUnder ∈ sx_T := sx_tin 271 rfl rfl
set_option maxRecDepth 100000 in
theorem tw_272 : Jvm.Cond.code ({ cls := "StringShed$Shed", name := "weightUnder", desc := "(I)I" } : Jvm.MethodName) prog_5_method_12_code (2 : Nat) (Option.some Jvm.ClassFile.FieldType.int) ∈ sx_T := sx_tin 272 rfl rfl
set_option maxRecDepth 100000 in
theorem tw_273 : Cond.methodLink "StringShed$Shed" 78 yX3_held ∈ sx_T := sx_tin 273 rfl rfl
set_option maxRecDepth 100000 in
theorem tw_274 : Cond.instanceMethod yX3_held ∈ sx_T := sx_tin 274 rfl rfl
set_option maxRecDepth 100000 in
theorem tw_275 : Cond.selects RX3 yX3_held yX3_held ∈ sx_T := sx_tin 275 rfl rfl
set_option maxRecDepth 100000 in
theorem tw_276 : Jvm.Cond.code ({ cls := "StringShed$Shed", name := "held", desc := "()I" } : Jvm.MethodName) prog_5_method_9_code (1 : Nat) (Option.some Jvm.ClassFile.FieldType.int) ∈ sx_T := sx_tin 276 rfl rfl
set_option maxRecDepth 100000 in
theorem tw_277 : Cond.methodLink "StringShed$Shed" 67 yX3_holders ∈ sx_T := sx_tin 277 rfl rfl
set_option maxRecDepth 100000 in
theorem tw_278 : Cond.instanceMethod yX3_holders ∈ sx_T := sx_tin 278 rfl rfl
set_option maxRecDepth 100000 in
theorem tw_279 : Cond.selects RX3 yX3_holders yX3_holders ∈ sx_T := sx_tin 279 rfl rfl
set_option maxRecDepth 100000 in
theorem tw_280 : Jvm.Cond.code ({ cls := "StringShed$Shed", name := "holders", desc := "()I" } : Jvm.MethodName) prog_5_method_8_code (1 : Nat) (Option.some Jvm.ClassFile.FieldType.int) ∈ sx_T := sx_tin 280 rfl rfl
set_option maxRecDepth 100000 in
theorem tw_281 : Cond.methodLink "StringShed$Shed" 71 yX4_reach ∈ sx_T := sx_tin 281 rfl rfl
set_option maxRecDepth 100000 in
theorem tw_282 : Cond.instanceMethod yX4_reach ∈ sx_T := sx_tin 282 rfl rfl
set_option maxRecDepth 100000 in
theorem tw_283 : Cond.selects RX4 yX4_reach yX4_reach ∈ sx_T := sx_tin 283 rfl rfl
set_option maxRecDepth 100000 in
theorem tw_284 : Jvm.Cond.code ({ cls := "StringShed$Strings", name := "reach", desc := "(II)I" } : Jvm.MethodName) prog_6_method_21_code (7 : Nat) (Option.some Jvm.ClassFile.FieldType.int) ∈ sx_T := sx_tin 284 rfl rfl
set_option maxRecDepth 100000 in
theorem tw_285 : Cond.methodLink "StringShed$Shed" 81 yX3_weightOf ∈ sx_T := sx_tin 285 rfl rfl
set_option maxRecDepth 100000 in
theorem tw_286 : Cond.instanceMethod yX3_weightOf ∈ sx_T := sx_tin 286 rfl rfl
set_option maxRecDepth 100000 in
theorem tw_287 : Cond.selects RX3 yX3_weightOf yX3_weightOf ∈ sx_T := sx_tin 287 rfl rfl
set_option maxRecDepth 100000 in
theorem tw_288 : Jvm.Cond.code ({ cls := "StringShed$Shed", name := "weightOf", desc := "(I)I" } : Jvm.MethodName) prog_5_method_11_code (4 : Nat) (Option.some Jvm.ClassFile.FieldType.int) ∈ sx_T := sx_tin 288 rfl rfl
set_option maxRecDepth 100000 in
theorem tw_290 : Cond.static yX7_bitOf ∈ sx_T := sx_tin 290 rfl rfl
set_option maxRecDepth 100000 in
theorem tw_291 : Jvm.Cond.code ({ cls := "StringShed", name := "bitOf", desc := "(I)I" } : Jvm.MethodName) prog_1_method_33_code (1 : Nat) (Option.some Jvm.ClassFile.FieldType.int) ∈ sx_T := sx_tin 291 rfl rfl
set_option maxRecDepth 100000 in
theorem tw_292 : Cond.methodLink "StringShed" 129 yX4_codeAt ∈ sx_T := sx_tin 292 rfl rfl
set_option maxRecDepth 100000 in
theorem tw_293 : Cond.instanceMethod yX4_codeAt ∈ sx_T := sx_tin 293 rfl rfl
set_option maxRecDepth 100000 in
theorem tw_294 : Cond.selects RX4 yX4_codeAt yX4_codeAt ∈ sx_T := sx_tin 294 rfl rfl
set_option maxRecDepth 100000 in
theorem tw_295 : Jvm.Cond.code ({ cls := "StringShed$Strings", name := "codeAt", desc := "(I)I" } : Jvm.MethodName) prog_6_method_11_code (2 : Nat) (Option.some Jvm.ClassFile.FieldType.int) ∈ sx_T := sx_tin 295 rfl rfl
set_option maxRecDepth 100000 in
theorem tw_296 : Cond.methodLink "StringShed$Strings" 26 yX4_isAt ∈ sx_T := sx_tin 296 rfl rfl
set_option maxRecDepth 100000 in
theorem tw_298 : Cond.instanceMethod yX4_isAt ∈ sx_T := sx_tin 298 rfl rfl
set_option maxRecDepth 100000 in
theorem tw_299 : Jvm.Cond.code ({ cls := "StringShed$Strings", name := "isAt", desc := "(I)Z" } : Jvm.MethodName) prog_6_method_6_code (2 : Nat) (Option.some Jvm.ClassFile.FieldType.boolean) ∈ sx_T := sx_tin 299 rfl rfl
set_option maxRecDepth 100000 in
theorem tw_300 : Cond.methodLink "StringShedLaw" 165 yX7_rings ∈ sx_T := sx_tin 300 rfl rfl
set_option maxRecDepth 100000 in
theorem tw_301 : Cond.instanceMethod yX7_rings ∈ sx_T := sx_tin 301 rfl rfl
set_option maxRecDepth 100000 in
theorem tw_302 : Cond.selects RX7 yX7_rings yX7_rings ∈ sx_T := sx_tin 302 rfl rfl
set_option maxRecDepth 100000 in
theorem tw_303 : Jvm.Cond.code ({ cls := "StringShed", name := "rings", desc := "()I" } : Jvm.MethodName) prog_1_method_24_code (1 : Nat) (Option.some Jvm.ClassFile.FieldType.int) ∈ sx_T := sx_tin 303 rfl rfl
set_option maxRecDepth 100000 in
theorem tw_304 : Cond.methodLink "StringShed" 179 yX3_partsOnRings ∈ sx_T := sx_tin 304 rfl rfl
set_option maxRecDepth 100000 in
theorem tw_305 : Cond.instanceMethod yX3_partsOnRings ∈ sx_T := sx_tin 305 rfl rfl
set_option maxRecDepth 100000 in
theorem tw_306 : Cond.selects RX3 yX3_partsOnRings yX3_partsOnRings ∈ sx_T := sx_tin 306 rfl rfl
set_option maxRecDepth 100000 in
theorem tw_307 : Jvm.Cond.code ({ cls := "StringShed$Shed", name := "partsOnRings", desc := "()I" } : Jvm.MethodName) prog_5_method_13_code (4 : Nat) (Option.some Jvm.ClassFile.FieldType.int) ∈ sx_T := sx_tin 307 rfl rfl
set_option maxRecDepth 100000 in
theorem tw_308 : Cond.methodLink "StringShed$Shed" 84 yX4_isOnRing ∈ sx_T := sx_tin 308 rfl rfl
set_option maxRecDepth 100000 in
theorem tw_309 : Cond.instanceMethod yX4_isOnRing ∈ sx_T := sx_tin 309 rfl rfl
set_option maxRecDepth 100000 in
theorem tw_310 : Cond.selects RX4 yX4_isOnRing yX4_isOnRing ∈ sx_T := sx_tin 310 rfl rfl
set_option maxRecDepth 100000 in
theorem tw_311 : Jvm.Cond.code ({ cls := "StringShed$Strings", name := "isOnRing", desc := "(I)Z" } : Jvm.MethodName) prog_6_method_26_code (3 : Nat) (Option.some Jvm.ClassFile.FieldType.boolean) ∈ sx_T := sx_tin 311 rfl rfl
set_option maxRecDepth 100000 in
theorem tw_313 : Cond.methodLink "StringShed$Strings" 34 yX4_nextBelow ∈ sx_T := sx_tin 313 rfl rfl
set_option maxRecDepth 100000 in
theorem tw_314 : Cond.instanceMethod yX4_nextBelow ∈ sx_T := sx_tin 314 rfl rfl
set_option maxRecDepth 100000 in
theorem tw_315 : Cond.selects RX4 yX4_nextBelow yX4_nextBelow ∈ sx_T := sx_tin 315 rfl rfl
set_option maxRecDepth 100000 in
theorem tw_316 : Jvm.Cond.code ({ cls := "StringShed$Strings", name := "nextBelow", desc := "(I)I" } : Jvm.MethodName) prog_6_method_20_code (4 : Nat) (Option.some Jvm.ClassFile.FieldType.int) ∈ sx_T := sx_tin 316 rfl rfl
set_option maxRecDepth 100000 in
theorem tw_317 : Cond.methodLink "StringShed$Strings" 45 yX4_reach ∈ sx_T := sx_tin 317 rfl rfl
set_option maxRecDepth 100000 in
theorem tw_318 : Cond.methodLink "StringShedLaw" 169 yX7_takes ∈ sx_T := sx_tin 318 rfl rfl
set_option maxRecDepth 100000 in
theorem tw_319 : Cond.instanceMethod yX7_takes ∈ sx_T := sx_tin 319 rfl rfl
set_option maxRecDepth 100000 in
theorem tw_320 : Cond.selects RX7 yX7_takes yX7_takes ∈ sx_T := sx_tin 320 rfl rfl
set_option maxRecDepth 100000 in
theorem tw_321 : Jvm.Cond.code ({ cls := "StringShed", name := "takes", desc := "()I" } : Jvm.MethodName) prog_1_method_25_code (1 : Nat) (Option.some Jvm.ClassFile.FieldType.int) ∈ sx_T := sx_tin 321 rfl rfl
set_option maxRecDepth 100000 in
theorem tw_322 : Cond.methodLink "StringShed" 182 yX3_copyFrom ∈ sx_T := sx_tin 322 rfl rfl
set_option maxRecDepth 100000 in
theorem tw_323 : Cond.instanceMethod yX3_copyFrom ∈ sx_T := sx_tin 323 rfl rfl
set_option maxRecDepth 100000 in
theorem tw_324 : Cond.selects RX3 yX3_copyFrom yX3_copyFrom ∈ sx_T := sx_tin 324 rfl rfl
set_option maxRecDepth 100000 in
theorem tw_325 : Jvm.Cond.code ({ cls := "StringShed$Shed", name := "copyFrom", desc := "(LStringShed$Shed;)V" } : Jvm.MethodName) prog_5_method_2_code (3 : Nat) (Option.none : Option Jvm.ClassFile.FieldType) ∈ sx_T := sx_tin 325 rfl rfl
set_option maxRecDepth 100000 in
theorem tw_326 : Cond.methodLink "StringShed$Shed" 45 yX4_copyFrom ∈ sx_T := sx_tin 326 rfl rfl
set_option maxRecDepth 100000 in
theorem tw_327 : Cond.instanceMethod yX4_copyFrom ∈ sx_T := sx_tin 327 rfl rfl
set_option maxRecDepth 100000 in
theorem tw_328 : Cond.selects RX4 yX4_copyFrom yX4_copyFrom ∈ sx_T := sx_tin 328 rfl rfl
set_option maxRecDepth 100000 in
theorem tw_329 : Jvm.Cond.code ({ cls := "StringShed$Strings", name := "copyFrom", desc := "(LStringShed$Strings;)V" } : Jvm.MethodName) prog_6_method_2_code (3 : Nat) (Option.none : Option Jvm.ClassFile.FieldType) ∈ sx_T := sx_tin 329 rfl rfl
set_option maxRecDepth 100000 in
theorem tw_330 : Cond.methodLink "StringShed$Shed" 49 yX5_copyFrom ∈ sx_T := sx_tin 330 rfl rfl
set_option maxRecDepth 100000 in
theorem tw_331 : Cond.instanceMethod yX5_copyFrom ∈ sx_T := sx_tin 331 rfl rfl
set_option maxRecDepth 100000 in
theorem tw_332 : Cond.selects RX5 yX5_copyFrom yX5_copyFrom ∈ sx_T := sx_tin 332 rfl rfl
set_option maxRecDepth 100000 in
theorem tw_333 : Jvm.Cond.code ({ cls := "StringShed$Sweep", name := "copyFrom", desc := "(LStringShed$Sweep;)V" } : Jvm.MethodName) prog_7_method_2_code (3 : Nat) (Option.none : Option Jvm.ClassFile.FieldType) ∈ sx_T := sx_tin 333 rfl rfl
set_option maxRecDepth 100000 in
theorem tw_334 : Cond.methodLink "StringShed" 185 yX3_finishSweep ∈ sx_T := sx_tin 334 rfl rfl
set_option maxRecDepth 100000 in
theorem tw_335 : Cond.instanceMethod yX3_finishSweep ∈ sx_T := sx_tin 335 rfl rfl
set_option maxRecDepth 100000 in
theorem tw_336 : Cond.selects RX3 yX3_finishSweep yX3_finishSweep ∈ sx_T := sx_tin 336 rfl rfl
set_option maxRecDepth 100000 in
theorem tw_337 : Jvm.Cond.code ({ cls := "StringShed$Shed", name := "finishSweep", desc := "()V" } : Jvm.MethodName) prog_5_method_32_code (1 : Nat) (Option.none : Option Jvm.ClassFile.FieldType) ∈ sx_T := sx_tin 337 rfl rfl
set_option maxRecDepth 100000 in
theorem tw_338 : Cond.methodLink "StringShed$Shed" 97 yX5_isGoing ∈ sx_T := sx_tin 338 rfl rfl
set_option maxRecDepth 100000 in
theorem tw_339 : Cond.instanceMethod yX5_isGoing ∈ sx_T := sx_tin 339 rfl rfl
set_option maxRecDepth 100000 in
theorem tw_340 : Cond.selects RX5 yX5_isGoing yX5_isGoing ∈ sx_T := sx_tin 340 rfl rfl
set_option maxRecDepth 100000 in
theorem tw_341 : Jvm.Cond.code ({ cls := "StringShed$Sweep", name := "isGoing", desc := "()Z" } : Jvm.MethodName) prog_7_method_5_code (1 : Nat) (Option.some Jvm.ClassFile.FieldType.boolean) ∈ sx_T := sx_tin 341 rfl rfl
set_option maxRecDepth 100000 in
theorem tw_342 : Cond.methodLink "StringShed$Shed" 170 yX3_beginSweep ∈ sx_T := sx_tin 342 rfl rfl
set_option maxRecDepth 100000 in
theorem tw_344 : Cond.instanceMethod yX3_beginSweep ∈ sx_T := sx_tin 344 rfl rfl
set_option maxRecDepth 100000 in
theorem tw_345 : Jvm.Cond.code ({ cls := "StringShed$Shed", name := "beginSweep", desc := "()I" } : Jvm.MethodName) prog_5_method_29_code (3 : Nat) (Option.some Jvm.ClassFile.FieldType.int) ∈ sx_T := sx_tin 345 rfl rfl
set_option maxRecDepth 100000 in
theorem tw_346 : Cond.methodLink "StringShed$Shed" 196 yX5_start ∈ sx_T := sx_tin 346 rfl rfl
set_option maxRecDepth 100000 in
theorem tw_347 : Cond.instanceMethod yX5_start ∈ sx_T := sx_tin 347 rfl rfl
set_option maxRecDepth 100000 in
theorem tw_348 : Cond.selects RX5 yX5_start yX5_start ∈ sx_T := sx_tin 348 rfl rfl
set_option maxRecDepth 100000 in
theorem tw_349 : Jvm.Cond.code ({ cls := "StringShed$Sweep", name := "start", desc := "(I)V" } : Jvm.MethodName) prog_7_method_3_code (2 : Nat) (Option.none : Option Jvm.ClassFile.FieldType) ∈ sx_T := sx_tin 349 rfl rfl
set_option maxRecDepth 100000 in
theorem tw_350 : Cond.methodLink "StringShed$Sweep" 29 yX5_stop ∈ sx_T := sx_tin 350 rfl rfl
set_option maxRecDepth 100000 in
theorem tw_351 : Cond.instanceMethod yX5_stop ∈ sx_T := sx_tin 351 rfl rfl
set_option maxRecDepth 100000 in
theorem tw_352 : Cond.selects RX5 yX5_stop yX5_stop ∈ sx_T := sx_tin 352 rfl rfl
set_option maxRecDepth 100000 in
theorem tw_353 : Jvm.Cond.code ({ cls := "StringShed$Sweep", name := "stop", desc := "()V" } : Jvm.MethodName) prog_7_method_4_code (1 : Nat) (Option.none : Option Jvm.ClassFile.FieldType) ∈ sx_T := sx_tin 353 rfl rfl
set_option maxRecDepth 100000 in
theorem tw_354 : Cond.methodLink "StringShed$Shed" 199 yX4_nextBelow ∈ sx_T := sx_tin 354 rfl rfl
set_option maxRecDepth 100000 in
theorem tw_355 : Cond.methodLink "StringShed$Shed" 187 yX5_shade ∈ sx_T := sx_tin 355 rfl rfl
set_option maxRecDepth 100000 in
theorem tw_356 : Cond.instanceMethod yX5_shade ∈ sx_T := sx_tin 356 rfl rfl
set_option maxRecDepth 100000 in
theorem tw_357 : Cond.selects RX5 yX5_shade yX5_shade ∈ sx_T := sx_tin 357 rfl rfl
set_option maxRecDepth 100000 in
theorem tw_358 : Jvm.Cond.code ({ cls := "StringShed$Sweep", name := "shade", desc := "(I)V" } : Jvm.MethodName) prog_7_method_11_code (2 : Nat) (Option.none : Option Jvm.ClassFile.FieldType) ∈ sx_T := sx_tin 358 rfl rfl
set_option maxRecDepth 100000 in
theorem tw_360 : Cond.methodLink "StringShed$Shed" 202 yX5_graysInRow ∈ sx_T := sx_tin 360 rfl rfl
set_option maxRecDepth 100000 in
theorem tw_361 : Cond.instanceMethod yX5_graysInRow ∈ sx_T := sx_tin 361 rfl rfl
set_option maxRecDepth 100000 in
theorem tw_362 : Cond.selects RX5 yX5_graysInRow yX5_graysInRow ∈ sx_T := sx_tin 362 rfl rfl
set_option maxRecDepth 100000 in
theorem tw_363 : Jvm.Cond.code ({ cls := "StringShed$Sweep", name := "graysInRow", desc := "()I" } : Jvm.MethodName) prog_7_method_7_code (1 : Nat) (Option.some Jvm.ClassFile.FieldType.int) ∈ sx_T := sx_tin 363 rfl rfl
set_option maxRecDepth 100000 in
theorem tw_364 : Cond.methodLink "StringShed$Shed" 223 yX3_takeSteps ∈ sx_T := sx_tin 364 rfl rfl
set_option maxRecDepth 100000 in
theorem tw_365 : Cond.instanceMethod yX3_takeSteps ∈ sx_T := sx_tin 365 rfl rfl
set_option maxRecDepth 100000 in
theorem tw_366 : Cond.selects RX3 yX3_takeSteps yX3_takeSteps ∈ sx_T := sx_tin 366 rfl rfl
set_option maxRecDepth 100000 in
theorem tw_367 : Jvm.Cond.code ({ cls := "StringShed$Shed", name := "takeSteps", desc := "(I)V" } : Jvm.MethodName) prog_5_method_33_code (3 : Nat) (Option.none : Option Jvm.ClassFile.FieldType) ∈ sx_T := sx_tin 367 rfl rfl
set_option maxRecDepth 100000 in
theorem tw_368 : Cond.methodLink "StringShed$Shed" 173 yX3_takeStep ∈ sx_T := sx_tin 368 rfl rfl
set_option maxRecDepth 100000 in
theorem tw_370 : Cond.instanceMethod yX3_takeStep ∈ sx_T := sx_tin 370 rfl rfl
set_option maxRecDepth 100000 in
theorem tw_371 : Jvm.Cond.code ({ cls := "StringShed$Shed", name := "takeStep", desc := "()I" } : Jvm.MethodName) prog_5_method_30_code (3 : Nat) (Option.some Jvm.ClassFile.FieldType.int) ∈ sx_T := sx_tin 371 rfl rfl
set_option maxRecDepth 100000 in
theorem tw_372 : Cond.methodLink "StringShed$Shed" 205 yX5_blackenFirst ∈ sx_T := sx_tin 372 rfl rfl
set_option maxRecDepth 100000 in
theorem tw_373 : Cond.instanceMethod yX5_blackenFirst ∈ sx_T := sx_tin 373 rfl rfl
set_option maxRecDepth 100000 in
theorem tw_374 : Cond.selects RX5 yX5_blackenFirst yX5_blackenFirst ∈ sx_T := sx_tin 374 rfl rfl
set_option maxRecDepth 100000 in
theorem tw_375 : Jvm.Cond.code ({ cls := "StringShed$Sweep", name := "blackenFirst", desc := "()I" } : Jvm.MethodName) prog_7_method_12_code (3 : Nat) (Option.some Jvm.ClassFile.FieldType.int) ∈ sx_T := sx_tin 375 rfl rfl
set_option maxRecDepth 100000 in
theorem tw_376 : Cond.methodLink "StringShed$Shed" 208 yX3_endSweep ∈ sx_T := sx_tin 376 rfl rfl
set_option maxRecDepth 100000 in
theorem tw_378 : Cond.instanceMethod yX3_endSweep ∈ sx_T := sx_tin 378 rfl rfl
set_option maxRecDepth 100000 in
theorem tw_379 : Jvm.Cond.code ({ cls := "StringShed$Shed", name := "endSweep", desc := "()I" } : Jvm.MethodName) prog_5_method_31_code (2 : Nat) (Option.some Jvm.ClassFile.FieldType.int) ∈ sx_T := sx_tin 379 rfl rfl
set_option maxRecDepth 100000 in
theorem tw_380 : Cond.methodLink "StringShed$Shed" 217 yX5_whites ∈ sx_T := sx_tin 380 rfl rfl
set_option maxRecDepth 100000 in
theorem tw_381 : Cond.instanceMethod yX5_whites ∈ sx_T := sx_tin 381 rfl rfl
set_option maxRecDepth 100000 in
theorem tw_382 : Cond.selects RX5 yX5_whites yX5_whites ∈ sx_T := sx_tin 382 rfl rfl
set_option maxRecDepth 100000 in
theorem tw_383 : Jvm.Cond.code ({ cls := "StringShed$Sweep", name := "whites", desc := "()I" } : Jvm.MethodName) prog_7_method_6_code (1 : Nat) (Option.some Jvm.ClassFile.FieldType.int) ∈ sx_T := sx_tin 383 rfl rfl
set_option maxRecDepth 100000 in
theorem tw_384 : Cond.methodLink "StringShed$Shed" 220 yX4_removeAll ∈ sx_T := sx_tin 384 rfl rfl
set_option maxRecDepth 100000 in
theorem tw_385 : Cond.instanceMethod yX4_removeAll ∈ sx_T := sx_tin 385 rfl rfl
set_option maxRecDepth 100000 in
theorem tw_386 : Cond.selects RX4 yX4_removeAll yX4_removeAll ∈ sx_T := sx_tin 386 rfl rfl
set_option maxRecDepth 100000 in
theorem tw_387 : Jvm.Cond.code ({ cls := "StringShed$Strings", name := "removeAll", desc := "(I)I" } : Jvm.MethodName) prog_6_method_16_code (5 : Nat) (Option.some Jvm.ClassFile.FieldType.int) ∈ sx_T := sx_tin 387 rfl rfl
set_option maxRecDepth 100000 in
theorem tw_388 : Cond.methodLink "StringShed$Shed" 55 yX5_stop ∈ sx_T := sx_tin 388 rfl rfl
set_option maxRecDepth 100000 in
theorem tw_389 : Cond.methodLink "StringShed$Shed" 58 yJ6_bitCount_0f7a4 ∈ sx_T := sx_tin 389 rfl rfl
set_option maxRecDepth 100000 in
theorem tw_390 : Cond.static yJ6_bitCount_0f7a4 ∈ sx_T := sx_tin 390 rfl rfl
set_option maxRecDepth 100000 in
theorem tw_391 : Jvm.Cond.code ({ cls := "java/lang/Integer", name := "bitCount", desc := "(I)I" } : Jvm.MethodName) prog_15_method_49_code (1 : Nat) (Option.some Jvm.ClassFile.FieldType.int) ∈ sx_T := sx_tin 391 rfl rfl
set_option maxRecDepth 100000 in
theorem tw_392 : Jvm.Cond.constant "java/lang/Integer" (265 : Nat) (1431655765 : Int32) ∈ sx_T := sx_tin 392 rfl rfl
set_option maxRecDepth 100000 in
theorem tw_393 : Jvm.Cond.constant "java/lang/Integer" (266 : Nat) (858993459 : Int32) ∈ sx_T := sx_tin 393 rfl rfl
set_option maxRecDepth 100000 in
theorem tw_394 : Jvm.Cond.constant "java/lang/Integer" (267 : Nat) (252645135 : Int32) ∈ sx_T := sx_tin 394 rfl rfl
set_option maxRecDepth 100000 in
theorem tw_395 : Cond.methodLink "StringShed$Shed" 91 yX4_size ∈ sx_T := sx_tin 395 rfl rfl
set_option maxRecDepth 100000 in
theorem tw_396 : Cond.methodLink "StringShed$Shed" 148 yX4_isSoundAt ∈ sx_T := sx_tin 396 rfl rfl
set_option maxRecDepth 100000 in
theorem tw_397 : Cond.instanceMethod yX4_isSoundAt ∈ sx_T := sx_tin 397 rfl rfl
set_option maxRecDepth 100000 in
theorem tw_398 : Cond.selects RX4 yX4_isSoundAt yX4_isSoundAt ∈ sx_T := sx_tin 398 rfl rfl
set_option maxRecDepth 100000 in
theorem tw_399 : Jvm.Cond.code ({ cls := "StringShed$Strings", name := "isSoundAt", desc := "(I)Z" } : Jvm.MethodName) prog_6_method_9_code (2 : Nat) (Option.some Jvm.ClassFile.FieldType.boolean) ∈ sx_T := sx_tin 399 rfl rfl
set_option maxRecDepth 100000 in
theorem tw_400 : Cond.methodLink "StringShed$Shed" 211 yX4_aboveAt ∈ sx_T := sx_tin 400 rfl rfl
set_option maxRecDepth 100000 in
theorem tw_401 : Cond.instanceMethod yX4_aboveAt ∈ sx_T := sx_tin 401 rfl rfl
set_option maxRecDepth 100000 in
theorem tw_402 : Cond.selects RX4 yX4_aboveAt yX4_aboveAt ∈ sx_T := sx_tin 402 rfl rfl
set_option maxRecDepth 100000 in
theorem tw_403 : Jvm.Cond.code ({ cls := "StringShed$Strings", name := "aboveAt", desc := "(I)I" } : Jvm.MethodName) prog_6_method_7_code (2 : Nat) (Option.some Jvm.ClassFile.FieldType.int) ∈ sx_T := sx_tin 403 rfl rfl
set_option maxRecDepth 100000 in
theorem tw_404 : Cond.methodLink "StringShed$Shed" 214 yX4_belowAt ∈ sx_T := sx_tin 404 rfl rfl
set_option maxRecDepth 100000 in
theorem tw_405 : Cond.instanceMethod yX4_belowAt ∈ sx_T := sx_tin 405 rfl rfl
set_option maxRecDepth 100000 in
theorem tw_406 : Cond.selects RX4 yX4_belowAt yX4_belowAt ∈ sx_T := sx_tin 406 rfl rfl
set_option maxRecDepth 100000 in
theorem tw_407 : Jvm.Cond.code ({ cls := "StringShed$Strings", name := "belowAt", desc := "(I)I" } : Jvm.MethodName) prog_6_method_8_code (2 : Nat) (Option.some Jvm.ClassFile.FieldType.int) ∈ sx_T := sx_tin 407 rfl rfl
set_option maxRecDepth 100000 in
theorem tw_408 : Cond.methodLink "StringShed" 188 yX3_swept ∈ sx_T := sx_tin 408 rfl rfl
set_option maxRecDepth 100000 in
theorem tw_409 : Cond.instanceMethod yX3_swept ∈ sx_T := sx_tin 409 rfl rfl
set_option maxRecDepth 100000 in
theorem tw_410 : Cond.selects RX3 yX3_swept yX3_swept ∈ sx_T := sx_tin 410 rfl rfl
set_option maxRecDepth 100000 in
theorem tw_411 : Jvm.Cond.code ({ cls := "StringShed$Shed", name := "swept", desc := "()I" } : Jvm.MethodName) prog_5_method_5_code (1 : Nat) (Option.some Jvm.ClassFile.FieldType.int) ∈ sx_T := sx_tin 411 rfl rfl
set_option maxRecDepth 100000 in
theorem tw_412 : Cond.methodLink "StringShedLaw" 173 yX7_spares ∈ sx_T := sx_tin 412 rfl rfl
set_option maxRecDepth 100000 in
theorem tw_413 : Cond.instanceMethod yX7_spares ∈ sx_T := sx_tin 413 rfl rfl
set_option maxRecDepth 100000 in
theorem tw_414 : Cond.selects RX7 yX7_spares yX7_spares ∈ sx_T := sx_tin 414 rfl rfl
set_option maxRecDepth 100000 in
theorem tw_415 : Jvm.Cond.code ({ cls := "StringShed", name := "spares", desc := "()I" } : Jvm.MethodName) prog_1_method_26_code (1 : Nat) (Option.some Jvm.ClassFile.FieldType.int) ∈ sx_T := sx_tin 415 rfl rfl
set_option maxRecDepth 100000 in
theorem tw_416 : Cond.methodLink "StringShed" 195 yX5_isGoing ∈ sx_T := sx_tin 416 rfl rfl
set_option maxRecDepth 100000 in
theorem tw_417 : Cond.methodLink "StringShed" 200 yX3_parts ∈ sx_T := sx_tin 417 rfl rfl
set_option maxRecDepth 100000 in
theorem tw_418 : Cond.instanceMethod yX3_parts ∈ sx_T := sx_tin 418 rfl rfl
set_option maxRecDepth 100000 in
theorem tw_419 : Cond.selects RX3 yX3_parts yX3_parts ∈ sx_T := sx_tin 419 rfl rfl
set_option maxRecDepth 100000 in
theorem tw_420 : Jvm.Cond.code ({ cls := "StringShed$Shed", name := "parts", desc := "()I" } : Jvm.MethodName) prog_5_method_4_code (1 : Nat) (Option.some Jvm.ClassFile.FieldType.int) ∈ sx_T := sx_tin 420 rfl rfl
set_option maxRecDepth 100000 in
theorem tw_421 : Cond.methodLink "StringShed" 203 yX3_held ∈ sx_T := sx_tin 421 rfl rfl
set_option maxRecDepth 100000 in
theorem tw_422 : Cond.methodLink "StringShed" 206 yJ6_bitCount_0f7a4 ∈ sx_T := sx_tin 422 rfl rfl
set_option maxRecDepth 100000 in
theorem tw_423 : Cond.methodLink "StringShedLaw" 92 yL_append ∈ sx_T := sx_tin 423 rfl rfl
set_option maxRecDepth 100000 in
theorem tw_424 : Cond.static yL_append ∈ sx_T := sx_tin 424 rfl rfl
set_option maxRecDepth 100000 in
theorem tw_425 : Jvm.Cond.codeWith ({ cls := "StringShedLaw", name := "append", desc := "(LStringShed;I[J)I" } : Jvm.MethodName) method_3_code (4 : Nat) (Option.some Jvm.ClassFile.FieldType.int) [((0 : Nat), (9 : Nat), (12 : Nat), (13 : Nat)), ((0 : Nat), (9 : Nat), (15 : Nat), (15 : Nat))] ∈ sx_T := sx_tin 425 rfl rfl
set_option maxRecDepth 100000 in
theorem tw_426 : Jvm.Cond.classLink "StringShedLaw" (13 : Nat) "java/lang/IllegalArgumentException" ∈ sx_T := sx_tin 426 rfl rfl
set_option maxRecDepth 100000 in
theorem tw_427 : Jvm.Cond.classLink "StringShedLaw" (15 : Nat) "java/lang/IllegalStateException" ∈ sx_T := sx_tin 427 rfl rfl
set_option maxRecDepth 100000 in
theorem tw_428 : Cond.methodLink "StringShedLaw" 7 yX7_append ∈ sx_T := sx_tin 428 rfl rfl
set_option maxRecDepth 100000 in
theorem tw_429 : Cond.instanceMethod yX7_append ∈ sx_T := sx_tin 429 rfl rfl
set_option maxRecDepth 100000 in
theorem tw_430 : Cond.selects RX7 yX7_append yX7_append ∈ sx_T := sx_tin 430 rfl rfl
set_option maxRecDepth 100000 in
theorem tw_431 : Jvm.Cond.code ({ cls := "StringShed", name := "append", desc := "(I)I" } : Jvm.MethodName) prog_1_method_2_code (2 : Nat) (Option.some Jvm.ClassFile.FieldType.int) ∈ sx_T := sx_tin 431 rfl rfl
set_option maxRecDepth 100000 in
theorem tw_432 : Jvm.Cond.classLink "StringShed" (48 : Nat) "java/lang/IllegalArgumentException" ∈ sx_T := sx_tin 432 rfl rfl
set_option maxRecDepth 100000 in
theorem tw_433 : Jvm.Cond.instantiable "java/lang/IllegalArgumentException" (6 : Nat) ∈ sx_T := sx_tin 433 rfl rfl
set_option maxRecDepth 100000 in
theorem tw_443 : Jvm.Cond.lays "java/lang/IllegalArgumentException" "java/lang/Throwable" "cause" "Ljava/lang/Throwable;" ∈ sx_T := sx_tin 443 rfl rfl
set_option maxRecDepth 100000 in
theorem tw_444 : Jvm.Cond.lays "java/lang/Throwable" "java/lang/Throwable" "cause" "Ljava/lang/Throwable;" ∈ sx_T := sx_tin 444 rfl rfl
set_option maxRecDepth 100000 in
theorem tw_445 : Jvm.Cond.lays "java/lang/IllegalArgumentException" "java/lang/Throwable" "stackTrace" "[Ljava/lang/StackTraceElement;" ∈ sx_T := sx_tin 445 rfl rfl
set_option maxRecDepth 100000 in
theorem tw_446 : Jvm.Cond.lays "java/lang/Throwable" "java/lang/Throwable" "stackTrace" "[Ljava/lang/StackTraceElement;" ∈ sx_T := sx_tin 446 rfl rfl
set_option maxRecDepth 100000 in
theorem tw_447 : Jvm.Cond.lays "java/lang/IllegalArgumentException" "java/lang/Throwable" "suppressedExceptions" "Ljava/util/List;" ∈ sx_T := sx_tin 447 rfl rfl
set_option maxRecDepth 100000 in
theorem tw_448 : Jvm.Cond.lays "java/lang/Throwable" "java/lang/Throwable" "suppressedExceptions" "Ljava/util/List;" ∈ sx_T := sx_tin 448 rfl rfl
set_option maxRecDepth 100000 in
theorem tw_449 : Jvm.Cond.lays "java/lang/IllegalArgumentException" "java/lang/Throwable" "detailMessage" "Ljava/lang/String;" ∈ sx_T := sx_tin 449 rfl rfl
set_option maxRecDepth 100000 in
theorem tw_450 : Jvm.Cond.lays "java/lang/Throwable" "java/lang/Throwable" "detailMessage" "Ljava/lang/String;" ∈ sx_T := sx_tin 450 rfl rfl
set_option maxRecDepth 100000 in
theorem tw_451 : Jvm.Cond.lays "java/lang/IllegalArgumentException" "java/lang/Throwable" "backtrace" "Ljava/lang/Object;" ∈ sx_T := sx_tin 451 rfl rfl
set_option maxRecDepth 100000 in
theorem tw_452 : Jvm.Cond.lays "java/lang/Throwable" "java/lang/Throwable" "backtrace" "Ljava/lang/Object;" ∈ sx_T := sx_tin 452 rfl rfl
set_option maxRecDepth 100000 in
theorem tw_453 : Cond.fieldLink "java/lang/Throwable" 198 "java/lang/Throwable" "backtrace" "Ljava/lang/Object;" ∈ sx_T := sx_tin 453 rfl rfl
set_option maxRecDepth 100000 in
theorem tw_456 : Jvm.Cond.code ({ cls := "java/lang/Throwable", name := "<init>", desc := "()V" } : Jvm.MethodName) prog_19_method_1_code (1 : Nat) (Option.none : Option Jvm.ClassFile.FieldType) ∈ sx_T := sx_tin 456 rfl rfl
set_option maxRecDepth 100000 in
theorem tw_458 : Cond.fieldLink "java/lang/Throwable" 13 "java/lang/Throwable" "UNASSIGNED_STACK" "[Ljava/lang/StackTraceElement;" ∈ sx_T := sx_tin 458 rfl rfl
set_option maxRecDepth 100000 in
theorem tw_460 : Cond.fieldLink "java/lang/Throwable" 20 "java/lang/Throwable" "SUPPRESSED_SENTINEL" "Ljava/util/List;" ∈ sx_T := sx_tin 460 rfl rfl
set_option maxRecDepth 100000 in
theorem tw_471 : Jvm.Cond.instantiable "java/lang/Throwable" (6 : Nat) ∈ sx_T := sx_tin 471 rfl rfl
set_option maxRecDepth 100000 in
theorem tw_476 : Jvm.Cond.code ({ cls := "java/lang/IllegalArgumentException", name := "<init>", desc := "(Ljava/lang/String;)V" } : Jvm.MethodName) prog_12_method_2_code (2 : Nat) (Option.none : Option Jvm.ClassFile.FieldType) ∈ sx_T := sx_tin 476 rfl rfl
set_option maxRecDepth 100000 in
theorem tw_479 : Jvm.Cond.code ({ cls := "java/lang/RuntimeException", name := "<init>", desc := "(Ljava/lang/String;)V" } : Jvm.MethodName) prog_17_method_2_code (2 : Nat) (Option.none : Option Jvm.ClassFile.FieldType) ∈ sx_T := sx_tin 479 rfl rfl
set_option maxRecDepth 100000 in
theorem tw_482 : Jvm.Cond.code ({ cls := "java/lang/Exception", name := "<init>", desc := "(Ljava/lang/String;)V" } : Jvm.MethodName) prog_11_method_2_code (2 : Nat) (Option.none : Option Jvm.ClassFile.FieldType) ∈ sx_T := sx_tin 482 rfl rfl
set_option maxRecDepth 100000 in
theorem tw_485 : Jvm.Cond.code ({ cls := "java/lang/Throwable", name := "<init>", desc := "(Ljava/lang/String;)V" } : Jvm.MethodName) prog_19_method_2_code (2 : Nat) (Option.none : Option Jvm.ClassFile.FieldType) ∈ sx_T := sx_tin 485 rfl rfl
set_option maxRecDepth 100000 in
theorem tw_487 : Cond.fieldLink "java/lang/Throwable" 31 "java/lang/Throwable" "detailMessage" "Ljava/lang/String;" ∈ sx_T := sx_tin 487 rfl rfl
set_option maxRecDepth 100000 in
theorem tw_488 : Cond.fieldLink "java/lang/Throwable" 7 "java/lang/Throwable" "cause" "Ljava/lang/Throwable;" ∈ sx_T := sx_tin 488 rfl rfl
set_option maxRecDepth 100000 in
theorem tw_489 : Cond.fieldLink "java/lang/Throwable" 17 "java/lang/Throwable" "stackTrace" "[Ljava/lang/StackTraceElement;" ∈ sx_T := sx_tin 489 rfl rfl
set_option maxRecDepth 100000 in
theorem tw_490 : Cond.fieldLink "java/lang/Throwable" 24 "java/lang/Throwable" "suppressedExceptions" "Ljava/util/List;" ∈ sx_T := sx_tin 490 rfl rfl
set_option maxRecDepth 100000 in
theorem tw_495 : Jvm.Cond.lays "java/lang/IllegalArgumentException" "java/lang/Throwable" "depth" "I" ∈ sx_T := sx_tin 495 rfl rfl
set_option maxRecDepth 100000 in
theorem tw_499 : Jvm.Cond.arrayClass Jvm.ClassFile.FieldType.byte ∈ sx_T := sx_tin 499 rfl rfl
set_option maxRecDepth 100000 in
theorem tw_500 : Cond.methodLink "StringShed" 55 yX6_isFull ∈ sx_T := sx_tin 500 rfl rfl
set_option maxRecDepth 100000 in
theorem tw_501 : Cond.instanceMethod yX6_isFull ∈ sx_T := sx_tin 501 rfl rfl
set_option maxRecDepth 100000 in
theorem tw_502 : Cond.selects RX6 yX6_isFull yX6_isFull ∈ sx_T := sx_tin 502 rfl rfl
set_option maxRecDepth 100000 in
theorem tw_503 : Jvm.Cond.code ({ cls := "StringShed$Text", name := "isFull", desc := "()Z" } : Jvm.MethodName) prog_8_method_2_code (1 : Nat) (Option.some Jvm.ClassFile.FieldType.boolean) ∈ sx_T := sx_tin 503 rfl rfl
set_option maxRecDepth 100000 in
theorem tw_504 : Jvm.Cond.classLink "StringShed" (59 : Nat) "java/lang/IllegalStateException" ∈ sx_T := sx_tin 504 rfl rfl
set_option maxRecDepth 100000 in
theorem tw_505 : Jvm.Cond.instantiable "java/lang/IllegalStateException" (6 : Nat) ∈ sx_T := sx_tin 505 rfl rfl
set_option maxRecDepth 100000 in
theorem tw_508 : Jvm.Cond.lays "java/lang/IllegalStateException" "java/lang/Throwable" "cause" "Ljava/lang/Throwable;" ∈ sx_T := sx_tin 508 rfl rfl
set_option maxRecDepth 100000 in
theorem tw_509 : Jvm.Cond.lays "java/lang/IllegalStateException" "java/lang/Throwable" "stackTrace" "[Ljava/lang/StackTraceElement;" ∈ sx_T := sx_tin 509 rfl rfl
set_option maxRecDepth 100000 in
theorem tw_510 : Jvm.Cond.lays "java/lang/IllegalStateException" "java/lang/Throwable" "suppressedExceptions" "Ljava/util/List;" ∈ sx_T := sx_tin 510 rfl rfl
set_option maxRecDepth 100000 in
theorem tw_511 : Jvm.Cond.lays "java/lang/IllegalStateException" "java/lang/Throwable" "detailMessage" "Ljava/lang/String;" ∈ sx_T := sx_tin 511 rfl rfl
set_option maxRecDepth 100000 in
theorem tw_512 : Jvm.Cond.lays "java/lang/IllegalStateException" "java/lang/Throwable" "backtrace" "Ljava/lang/Object;" ∈ sx_T := sx_tin 512 rfl rfl
set_option maxRecDepth 100000 in
theorem tw_516 : Jvm.Cond.code ({ cls := "java/lang/IllegalStateException", name := "<init>", desc := "(Ljava/lang/String;)V" } : Jvm.MethodName) prog_13_method_2_code (2 : Nat) (Option.none : Option Jvm.ClassFile.FieldType) ∈ sx_T := sx_tin 516 rfl rfl
set_option maxRecDepth 100000 in
theorem tw_518 : Jvm.Cond.lays "java/lang/IllegalStateException" "java/lang/Throwable" "depth" "I" ∈ sx_T := sx_tin 518 rfl rfl
set_option maxRecDepth 100000 in
theorem tw_520 : Cond.methodLink "StringShed" 64 yX6_add ∈ sx_T := sx_tin 520 rfl rfl
set_option maxRecDepth 100000 in
theorem tw_521 : Cond.instanceMethod yX6_add ∈ sx_T := sx_tin 521 rfl rfl
set_option maxRecDepth 100000 in
theorem tw_522 : Cond.selects RX6 yX6_add yX6_add ∈ sx_T := sx_tin 522 rfl rfl
set_option maxRecDepth 100000 in
theorem tw_523 : Jvm.Cond.code ({ cls := "StringShed$Text", name := "add", desc := "(I)I" } : Jvm.MethodName) prog_8_method_4_code (2 : Nat) (Option.some Jvm.ClassFile.FieldType.int) ∈ sx_T := sx_tin 523 rfl rfl
set_option maxRecDepth 100000 in
theorem tw_524 : Cond.methodLink "StringShedLaw" 109 yL_load ∈ sx_T := sx_tin 524 rfl rfl
set_option maxRecDepth 100000 in
theorem tw_525 : Cond.static yL_load ∈ sx_T := sx_tin 525 rfl rfl
set_option maxRecDepth 100000 in
theorem tw_526 : Jvm.Cond.codeWith ({ cls := "StringShedLaw", name := "load", desc := "(LStringShed;[J)I" } : Jvm.MethodName) method_4_code (3 : Nat) (Option.some Jvm.ClassFile.FieldType.int) [((0 : Nat), (8 : Nat), (11 : Nat), (15 : Nat))] ∈ sx_T := sx_tin 526 rfl rfl
set_option maxRecDepth 100000 in
theorem tw_527 : Cond.methodLink "StringShedLaw" 17 yX7_load ∈ sx_T := sx_tin 527 rfl rfl
set_option maxRecDepth 100000 in
theorem tw_528 : Cond.instanceMethod yX7_load ∈ sx_T := sx_tin 528 rfl rfl
set_option maxRecDepth 100000 in
theorem tw_529 : Cond.selects RX7 yX7_load yX7_load ∈ sx_T := sx_tin 529 rfl rfl
set_option maxRecDepth 100000 in
theorem tw_530 : Jvm.Cond.code ({ cls := "StringShed", name := "load", desc := "()I" } : Jvm.MethodName) prog_1_method_5_code (3 : Nat) (Option.some Jvm.ClassFile.FieldType.int) ∈ sx_T := sx_tin 530 rfl rfl
set_option maxRecDepth 100000 in
theorem tw_532 : Cond.methodLink "StringShed" 77 yX3_clear ∈ sx_T := sx_tin 532 rfl rfl
set_option maxRecDepth 100000 in
theorem tw_533 : Cond.instanceMethod yX3_clear ∈ sx_T := sx_tin 533 rfl rfl
set_option maxRecDepth 100000 in
theorem tw_534 : Cond.selects RX3 yX3_clear yX3_clear ∈ sx_T := sx_tin 534 rfl rfl
set_option maxRecDepth 100000 in
theorem tw_535 : Jvm.Cond.code ({ cls := "StringShed$Shed", name := "clear", desc := "()V" } : Jvm.MethodName) prog_5_method_3_code (1 : Nat) (Option.none : Option Jvm.ClassFile.FieldType) ∈ sx_T := sx_tin 535 rfl rfl
set_option maxRecDepth 100000 in
theorem tw_536 : Cond.methodLink "StringShed$Shed" 52 yX4_clear ∈ sx_T := sx_tin 536 rfl rfl
set_option maxRecDepth 100000 in
theorem tw_537 : Cond.instanceMethod yX4_clear ∈ sx_T := sx_tin 537 rfl rfl
set_option maxRecDepth 100000 in
theorem tw_538 : Cond.selects RX4 yX4_clear yX4_clear ∈ sx_T := sx_tin 538 rfl rfl
set_option maxRecDepth 100000 in
theorem tw_539 : Jvm.Cond.code ({ cls := "StringShed$Strings", name := "clear", desc := "()V" } : Jvm.MethodName) prog_6_method_3_code (1 : Nat) (Option.none : Option Jvm.ClassFile.FieldType) ∈ sx_T := sx_tin 539 rfl rfl
set_option maxRecDepth 100000 in
theorem tw_540 : Cond.methodLink "StringShed" 80 yX1_forget ∈ sx_T := sx_tin 540 rfl rfl
set_option maxRecDepth 100000 in
theorem tw_541 : Cond.instanceMethod yX1_forget ∈ sx_T := sx_tin 541 rfl rfl
set_option maxRecDepth 100000 in
theorem tw_542 : Cond.selects RX1 yX1_forget yX1_forget ∈ sx_T := sx_tin 542 rfl rfl
set_option maxRecDepth 100000 in
theorem tw_543 : Jvm.Cond.code ({ cls := "StringShed$Past", name := "forget", desc := "()V" } : Jvm.MethodName) prog_3_method_3_code (1 : Nat) (Option.none : Option Jvm.ClassFile.FieldType) ∈ sx_T := sx_tin 543 rfl rfl
set_option maxRecDepth 100000 in
theorem tw_544 : Cond.methodLink "StringShed" 83 yX6_size ∈ sx_T := sx_tin 544 rfl rfl
set_option maxRecDepth 100000 in
theorem tw_545 : Cond.instanceMethod yX6_size ∈ sx_T := sx_tin 545 rfl rfl
set_option maxRecDepth 100000 in
theorem tw_546 : Cond.selects RX6 yX6_size yX6_size ∈ sx_T := sx_tin 546 rfl rfl
set_option maxRecDepth 100000 in
theorem tw_547 : Jvm.Cond.code ({ cls := "StringShed$Text", name := "size", desc := "()I" } : Jvm.MethodName) prog_8_method_3_code (1 : Nat) (Option.some Jvm.ClassFile.FieldType.int) ∈ sx_T := sx_tin 547 rfl rfl
set_option maxRecDepth 100000 in
theorem tw_548 : Cond.methodLink "StringShed" 86 yX6_isCommandAt ∈ sx_T := sx_tin 548 rfl rfl
set_option maxRecDepth 100000 in
theorem tw_549 : Cond.instanceMethod yX6_isCommandAt ∈ sx_T := sx_tin 549 rfl rfl
set_option maxRecDepth 100000 in
theorem tw_550 : Cond.selects RX6 yX6_isCommandAt yX6_isCommandAt ∈ sx_T := sx_tin 550 rfl rfl
set_option maxRecDepth 100000 in
theorem tw_551 : Jvm.Cond.code ({ cls := "StringShed$Text", name := "isCommandAt", desc := "(I)Z" } : Jvm.MethodName) prog_8_method_11_code (2 : Nat) (Option.some Jvm.ClassFile.FieldType.boolean) ∈ sx_T := sx_tin 551 rfl rfl
set_option maxRecDepth 100000 in
theorem tw_552 : Cond.methodLink "StringShed$Text" 35 yX6_codeAt ∈ sx_T := sx_tin 552 rfl rfl
set_option maxRecDepth 100000 in
theorem tw_554 : Cond.instanceMethod yX6_codeAt ∈ sx_T := sx_tin 554 rfl rfl
set_option maxRecDepth 100000 in
theorem tw_555 : Jvm.Cond.code ({ cls := "StringShed$Text", name := "codeAt", desc := "(I)I" } : Jvm.MethodName) prog_8_method_15_code (2 : Nat) (Option.some Jvm.ClassFile.FieldType.int) ∈ sx_T := sx_tin 555 rfl rfl
set_option maxRecDepth 100000 in
theorem tw_556 : Cond.methodLink "StringShed" 90 yX6_obeyAt ∈ sx_T := sx_tin 556 rfl rfl
set_option maxRecDepth 100000 in
theorem tw_557 : Cond.instanceMethod yX6_obeyAt ∈ sx_T := sx_tin 557 rfl rfl
set_option maxRecDepth 100000 in
theorem tw_558 : Cond.selects RX6 yX6_obeyAt yX6_obeyAt ∈ sx_T := sx_tin 558 rfl rfl
set_option maxRecDepth 100000 in
theorem tw_559 : Jvm.Cond.code ({ cls := "StringShed$Text", name := "obeyAt", desc := "(ILStringShed$Shed;)Z" } : Jvm.MethodName) prog_8_method_12_code (3 : Nat) (Option.some Jvm.ClassFile.FieldType.boolean) ∈ sx_T := sx_tin 559 rfl rfl
set_option maxRecDepth 100000 in
theorem tw_560 : Cond.methodLink "StringShed$Text" 38 yX3_attempt ∈ sx_T := sx_tin 560 rfl rfl
set_option maxRecDepth 100000 in
theorem tw_561 : Cond.instanceMethod yX3_attempt ∈ sx_T := sx_tin 561 rfl rfl
set_option maxRecDepth 100000 in
theorem tw_562 : Cond.selects RX3 yX3_attempt yX3_attempt ∈ sx_T := sx_tin 562 rfl rfl
set_option maxRecDepth 100000 in
theorem tw_563 : Jvm.Cond.code ({ cls := "StringShed$Shed", name := "attempt", desc := "(IIIZ)Z" } : Jvm.MethodName) prog_5_method_16_code (5 : Nat) (Option.some Jvm.ClassFile.FieldType.boolean) ∈ sx_T := sx_tin 563 rfl rfl
set_option maxRecDepth 100000 in
theorem tw_564 : Cond.methodLink "StringShed$Shed" 118 yX3_faultOf ∈ sx_T := sx_tin 564 rfl rfl
set_option maxRecDepth 100000 in
theorem tw_565 : Cond.instanceMethod yX3_faultOf ∈ sx_T := sx_tin 565 rfl rfl
set_option maxRecDepth 100000 in
theorem tw_566 : Cond.selects RX3 yX3_faultOf yX3_faultOf ∈ sx_T := sx_tin 566 rfl rfl
set_option maxRecDepth 100000 in
theorem tw_567 : Jvm.Cond.code ({ cls := "StringShed$Shed", name := "faultOf", desc := "(III)I" } : Jvm.MethodName) prog_5_method_17_code (4 : Nat) (Option.some Jvm.ClassFile.FieldType.int) ∈ sx_T := sx_tin 567 rfl rfl
set_option maxRecDepth 100000 in
theorem tw_568 : Cond.methodLink "StringShed$Shed" 126 yX3_makeFault ∈ sx_T := sx_tin 568 rfl rfl
set_option maxRecDepth 100000 in
theorem tw_570 : Cond.instanceMethod yX3_makeFault ∈ sx_T := sx_tin 570 rfl rfl
set_option maxRecDepth 100000 in
theorem tw_571 : Jvm.Cond.code ({ cls := "StringShed$Shed", name := "makeFault", desc := "(I)I" } : Jvm.MethodName) prog_5_method_18_code (2 : Nat) (Option.some Jvm.ClassFile.FieldType.int) ∈ sx_T := sx_tin 571 rfl rfl
set_option maxRecDepth 100000 in
theorem tw_572 : Cond.methodLink "StringShed$Shed" 129 yX3_tieFault ∈ sx_T := sx_tin 572 rfl rfl
set_option maxRecDepth 100000 in
theorem tw_574 : Cond.instanceMethod yX3_tieFault ∈ sx_T := sx_tin 574 rfl rfl
set_option maxRecDepth 100000 in
theorem tw_575 : Jvm.Cond.code ({ cls := "StringShed$Shed", name := "tieFault", desc := "(II)I" } : Jvm.MethodName) prog_5_method_19_code (3 : Nat) (Option.some Jvm.ClassFile.FieldType.int) ∈ sx_T := sx_tin 575 rfl rfl
set_option maxRecDepth 100000 in
theorem tw_576 : Cond.methodLink "StringShed$Shed" 142 yX3_placeFault ∈ sx_T := sx_tin 576 rfl rfl
set_option maxRecDepth 100000 in
theorem tw_577 : Cond.instanceMethod yX3_placeFault ∈ sx_T := sx_tin 577 rfl rfl
set_option maxRecDepth 100000 in
theorem tw_578 : Cond.selects RX3 yX3_placeFault yX3_placeFault ∈ sx_T := sx_tin 578 rfl rfl
set_option maxRecDepth 100000 in
theorem tw_579 : Jvm.Cond.code ({ cls := "StringShed$Shed", name := "placeFault", desc := "(II)I" } : Jvm.MethodName) prog_5_method_22_code (4 : Nat) (Option.some Jvm.ClassFile.FieldType.int) ∈ sx_T := sx_tin 579 rfl rfl
set_option maxRecDepth 100000 in
theorem tw_580 : Cond.methodLink "StringShed$Shed" 145 yX4_isFull ∈ sx_T := sx_tin 580 rfl rfl
set_option maxRecDepth 100000 in
theorem tw_581 : Cond.instanceMethod yX4_isFull ∈ sx_T := sx_tin 581 rfl rfl
set_option maxRecDepth 100000 in
theorem tw_582 : Cond.selects RX4 yX4_isFull yX4_isFull ∈ sx_T := sx_tin 582 rfl rfl
set_option maxRecDepth 100000 in
theorem tw_583 : Jvm.Cond.code ({ cls := "StringShed$Strings", name := "isFull", desc := "()Z" } : Jvm.MethodName) prog_6_method_5_code (1 : Nat) (Option.some Jvm.ClassFile.FieldType.boolean) ∈ sx_T := sx_tin 583 rfl rfl
set_option maxRecDepth 100000 in
theorem tw_584 : Cond.methodLink "StringShed$Shed" 132 yX4_find ∈ sx_T := sx_tin 584 rfl rfl
set_option maxRecDepth 100000 in
theorem tw_585 : Cond.instanceMethod yX4_find ∈ sx_T := sx_tin 585 rfl rfl
set_option maxRecDepth 100000 in
theorem tw_586 : Cond.selects RX4 yX4_find yX4_find ∈ sx_T := sx_tin 586 rfl rfl
set_option maxRecDepth 100000 in
theorem tw_587 : Jvm.Cond.code ({ cls := "StringShed$Strings", name := "find", desc := "(II)I" } : Jvm.MethodName) prog_6_method_12_code (4 : Nat) (Option.some Jvm.ClassFile.FieldType.int) ∈ sx_T := sx_tin 587 rfl rfl
set_option maxRecDepth 100000 in
theorem tw_588 : Cond.methodLink "StringShed$Shed" 135 yX3_stringFault ∈ sx_T := sx_tin 588 rfl rfl
set_option maxRecDepth 100000 in
theorem tw_590 : Cond.instanceMethod yX3_stringFault ∈ sx_T := sx_tin 590 rfl rfl
set_option maxRecDepth 100000 in
theorem tw_591 : Jvm.Cond.code ({ cls := "StringShed$Shed", name := "stringFault", desc := "(IIZ)I" } : Jvm.MethodName) prog_5_method_20_code (5 : Nat) (Option.some Jvm.ClassFile.FieldType.int) ∈ sx_T := sx_tin 591 rfl rfl
set_option maxRecDepth 100000 in
theorem tw_592 : Cond.methodLink "StringShed$Shed" 139 yX3_partFault ∈ sx_T := sx_tin 592 rfl rfl
set_option maxRecDepth 100000 in
theorem tw_593 : Cond.instanceMethod yX3_partFault ∈ sx_T := sx_tin 593 rfl rfl
set_option maxRecDepth 100000 in
theorem tw_594 : Cond.selects RX3 yX3_partFault yX3_partFault ∈ sx_T := sx_tin 594 rfl rfl
set_option maxRecDepth 100000 in
theorem tw_595 : Jvm.Cond.code ({ cls := "StringShed$Shed", name := "partFault", desc := "(I)I" } : Jvm.MethodName) prog_5_method_21_code (2 : Nat) (Option.some Jvm.ClassFile.FieldType.int) ∈ sx_T := sx_tin 595 rfl rfl
set_option maxRecDepth 100000 in
theorem tw_596 : Cond.methodLink "StringShed$Shed" 151 yX3_isPart ∈ sx_T := sx_tin 596 rfl rfl
set_option maxRecDepth 100000 in
theorem tw_597 : Cond.instanceMethod yX3_isPart ∈ sx_T := sx_tin 597 rfl rfl
set_option maxRecDepth 100000 in
theorem tw_598 : Cond.selects RX3 yX3_isPart yX3_isPart ∈ sx_T := sx_tin 598 rfl rfl
set_option maxRecDepth 100000 in
theorem tw_599 : Jvm.Cond.code ({ cls := "StringShed$Shed", name := "isPart", desc := "(I)Z" } : Jvm.MethodName) prog_5_method_6_code (2 : Nat) (Option.some Jvm.ClassFile.FieldType.boolean) ∈ sx_T := sx_tin 599 rfl rfl
set_option maxRecDepth 100000 in
theorem tw_600 : Cond.methodLink "StringShed$Shed" 122 yX3_perform ∈ sx_T := sx_tin 600 rfl rfl
set_option maxRecDepth 100000 in
theorem tw_601 : Cond.instanceMethod yX3_perform ∈ sx_T := sx_tin 601 rfl rfl
set_option maxRecDepth 100000 in
theorem tw_602 : Cond.selects RX3 yX3_perform yX3_perform ∈ sx_T := sx_tin 602 rfl rfl
set_option maxRecDepth 100000 in
theorem tw_603 : Jvm.Cond.code ({ cls := "StringShed$Shed", name := "perform", desc := "(IIIZ)I" } : Jvm.MethodName) prog_5_method_23_code (5 : Nat) (Option.some Jvm.ClassFile.FieldType.int) ∈ sx_T := sx_tin 603 rfl rfl
set_option maxRecDepth 100000 in
theorem tw_604 : Cond.methodLink "StringShed$Shed" 154 yX3_addPart ∈ sx_T := sx_tin 604 rfl rfl
set_option maxRecDepth 100000 in
theorem tw_606 : Cond.instanceMethod yX3_addPart ∈ sx_T := sx_tin 606 rfl rfl
set_option maxRecDepth 100000 in
theorem tw_607 : Jvm.Cond.code ({ cls := "StringShed$Shed", name := "addPart", desc := "(I)I" } : Jvm.MethodName) prog_5_method_24_code (3 : Nat) (Option.some Jvm.ClassFile.FieldType.int) ∈ sx_T := sx_tin 607 rfl rfl
set_option maxRecDepth 100000 in
theorem tw_608 : Cond.methodLink "StringShed$Shed" 176 yX5_addBlack ∈ sx_T := sx_tin 608 rfl rfl
set_option maxRecDepth 100000 in
theorem tw_609 : Cond.instanceMethod yX5_addBlack ∈ sx_T := sx_tin 609 rfl rfl
set_option maxRecDepth 100000 in
theorem tw_610 : Cond.selects RX5 yX5_addBlack yX5_addBlack ∈ sx_T := sx_tin 610 rfl rfl
set_option maxRecDepth 100000 in
theorem tw_611 : Jvm.Cond.code ({ cls := "StringShed$Sweep", name := "addBlack", desc := "(I)V" } : Jvm.MethodName) prog_7_method_10_code (2 : Nat) (Option.none : Option Jvm.ClassFile.FieldType) ∈ sx_T := sx_tin 611 rfl rfl
set_option maxRecDepth 100000 in
theorem tw_612 : Cond.methodLink "StringShed$Shed" 157 yX3_addString ∈ sx_T := sx_tin 612 rfl rfl
set_option maxRecDepth 100000 in
theorem tw_614 : Cond.instanceMethod yX3_addString ∈ sx_T := sx_tin 614 rfl rfl
set_option maxRecDepth 100000 in
theorem tw_615 : Jvm.Cond.code ({ cls := "StringShed$Shed", name := "addString", desc := "(IIZ)I" } : Jvm.MethodName) prog_5_method_25_code (4 : Nat) (Option.some Jvm.ClassFile.FieldType.int) ∈ sx_T := sx_tin 615 rfl rfl
set_option maxRecDepth 100000 in
theorem tw_616 : Cond.methodLink "StringShed$Shed" 180 yX4_add ∈ sx_T := sx_tin 616 rfl rfl
set_option maxRecDepth 100000 in
theorem tw_617 : Cond.instanceMethod yX4_add ∈ sx_T := sx_tin 617 rfl rfl
set_option maxRecDepth 100000 in
theorem tw_618 : Cond.selects RX4 yX4_add yX4_add ∈ sx_T := sx_tin 618 rfl rfl
set_option maxRecDepth 100000 in
theorem tw_619 : Jvm.Cond.code ({ cls := "StringShed$Strings", name := "add", desc := "(IIZ)V" } : Jvm.MethodName) prog_6_method_13_code (4 : Nat) (Option.none : Option Jvm.ClassFile.FieldType) ∈ sx_T := sx_tin 619 rfl rfl
set_option maxRecDepth 100000 in
theorem tw_620 : Cond.methodLink "StringShed$Shed" 184 yX5_passesBelow ∈ sx_T := sx_tin 620 rfl rfl
set_option maxRecDepth 100000 in
theorem tw_621 : Cond.instanceMethod yX5_passesBelow ∈ sx_T := sx_tin 621 rfl rfl
set_option maxRecDepth 100000 in
theorem tw_622 : Cond.selects RX5 yX5_passesBelow yX5_passesBelow ∈ sx_T := sx_tin 622 rfl rfl
set_option maxRecDepth 100000 in
theorem tw_623 : Jvm.Cond.code ({ cls := "StringShed$Sweep", name := "passesBelow", desc := "(I)Z" } : Jvm.MethodName) prog_7_method_9_code (2 : Nat) (Option.some Jvm.ClassFile.FieldType.boolean) ∈ sx_T := sx_tin 623 rfl rfl
set_option maxRecDepth 100000 in
theorem tw_624 : Cond.methodLink "StringShed$Shed" 160 yX3_removeString ∈ sx_T := sx_tin 624 rfl rfl
set_option maxRecDepth 100000 in
theorem tw_626 : Cond.instanceMethod yX3_removeString ∈ sx_T := sx_tin 626 rfl rfl
set_option maxRecDepth 100000 in
theorem tw_627 : Jvm.Cond.code ({ cls := "StringShed$Shed", name := "removeString", desc := "(II)I" } : Jvm.MethodName) prog_5_method_26_code (4 : Nat) (Option.some Jvm.ClassFile.FieldType.int) ∈ sx_T := sx_tin 627 rfl rfl
set_option maxRecDepth 100000 in
theorem tw_628 : Cond.methodLink "StringShed$Shed" 190 yX4_removeAt ∈ sx_T := sx_tin 628 rfl rfl
set_option maxRecDepth 100000 in
theorem tw_629 : Cond.instanceMethod yX4_removeAt ∈ sx_T := sx_tin 629 rfl rfl
set_option maxRecDepth 100000 in
theorem tw_630 : Cond.selects RX4 yX4_removeAt yX4_removeAt ∈ sx_T := sx_tin 630 rfl rfl
set_option maxRecDepth 100000 in
theorem tw_631 : Jvm.Cond.code ({ cls := "StringShed$Strings", name := "removeAt", desc := "(I)V" } : Jvm.MethodName) prog_6_method_15_code (3 : Nat) (Option.none : Option Jvm.ClassFile.FieldType) ∈ sx_T := sx_tin 631 rfl rfl
set_option maxRecDepth 100000 in
theorem tw_632 : Cond.methodLink "StringShed$Shed" 163 yX3_setSound ∈ sx_T := sx_tin 632 rfl rfl
set_option maxRecDepth 100000 in
theorem tw_634 : Cond.instanceMethod yX3_setSound ∈ sx_T := sx_tin 634 rfl rfl
set_option maxRecDepth 100000 in
theorem tw_635 : Jvm.Cond.code ({ cls := "StringShed$Shed", name := "setSound", desc := "(IIZ)I" } : Jvm.MethodName) prog_5_method_27_code (5 : Nat) (Option.some Jvm.ClassFile.FieldType.int) ∈ sx_T := sx_tin 635 rfl rfl
set_option maxRecDepth 100000 in
theorem tw_636 : Cond.methodLink "StringShed$Shed" 193 yX4_setSound ∈ sx_T := sx_tin 636 rfl rfl
set_option maxRecDepth 100000 in
theorem tw_637 : Cond.instanceMethod yX4_setSound ∈ sx_T := sx_tin 637 rfl rfl
set_option maxRecDepth 100000 in
theorem tw_638 : Cond.selects RX4 yX4_setSound yX4_setSound ∈ sx_T := sx_tin 638 rfl rfl
set_option maxRecDepth 100000 in
theorem tw_639 : Jvm.Cond.code ({ cls := "StringShed$Strings", name := "setSound", desc := "(IZ)V" } : Jvm.MethodName) prog_6_method_14_code (3 : Nat) (Option.none : Option Jvm.ClassFile.FieldType) ∈ sx_T := sx_tin 639 rfl rfl
set_option maxRecDepth 100000 in
theorem tw_640 : Cond.methodLink "StringShed$Shed" 166 yX3_setPinned ∈ sx_T := sx_tin 640 rfl rfl
set_option maxRecDepth 100000 in
theorem tw_642 : Cond.instanceMethod yX3_setPinned ∈ sx_T := sx_tin 642 rfl rfl
set_option maxRecDepth 100000 in
theorem tw_643 : Jvm.Cond.code ({ cls := "StringShed$Shed", name := "setPinned", desc := "(IZ)I" } : Jvm.MethodName) prog_5_method_28_code (3 : Nat) (Option.some Jvm.ClassFile.FieldType.int) ∈ sx_T := sx_tin 643 rfl rfl
set_option maxRecDepth 100000 in
theorem tw_644 : Cond.methodLink "StringShed$Text" 44 yX6_thingAt ∈ sx_T := sx_tin 644 rfl rfl
set_option maxRecDepth 100000 in
theorem tw_646 : Cond.instanceMethod yX6_thingAt ∈ sx_T := sx_tin 646 rfl rfl
set_option maxRecDepth 100000 in
theorem tw_647 : Jvm.Cond.code ({ cls := "StringShed$Text", name := "thingAt", desc := "(I)I" } : Jvm.MethodName) prog_8_method_13_code (2 : Nat) (Option.some Jvm.ClassFile.FieldType.int) ∈ sx_T := sx_tin 647 rfl rfl
set_option maxRecDepth 100000 in
theorem tw_648 : Cond.methodLink "StringShed$Text" 47 yX6_numberAt ∈ sx_T := sx_tin 648 rfl rfl
set_option maxRecDepth 100000 in
theorem tw_650 : Cond.instanceMethod yX6_numberAt ∈ sx_T := sx_tin 650 rfl rfl
set_option maxRecDepth 100000 in
theorem tw_651 : Jvm.Cond.code ({ cls := "StringShed$Text", name := "numberAt", desc := "(I)I" } : Jvm.MethodName) prog_8_method_14_code (2 : Nat) (Option.some Jvm.ClassFile.FieldType.int) ∈ sx_T := sx_tin 651 rfl rfl
set_option maxRecDepth 100000 in
theorem tw_652 : Cond.methodLink "StringShed$Text" 50 yX3_isPinned ∈ sx_T := sx_tin 652 rfl rfl
set_option maxRecDepth 100000 in
theorem tw_653 : Cond.instanceMethod yX3_isPinned ∈ sx_T := sx_tin 653 rfl rfl
set_option maxRecDepth 100000 in
theorem tw_654 : Cond.selects RX3 yX3_isPinned yX3_isPinned ∈ sx_T := sx_tin 654 rfl rfl
set_option maxRecDepth 100000 in
theorem tw_655 : Jvm.Cond.code ({ cls := "StringShed$Shed", name := "isPinned", desc := "(I)Z" } : Jvm.MethodName) prog_5_method_7_code (2 : Nat) (Option.some Jvm.ClassFile.FieldType.boolean) ∈ sx_T := sx_tin 655 rfl rfl
set_option maxRecDepth 100000 in
theorem tw_656 : Cond.methodLink "StringShedLaw" 113 yL_about ∈ sx_T := sx_tin 656 rfl rfl
set_option maxRecDepth 100000 in
theorem tw_657 : Cond.static yL_about ∈ sx_T := sx_tin 657 rfl rfl
set_option maxRecDepth 100000 in
theorem tw_658 : Jvm.Cond.codeWith ({ cls := "StringShedLaw", name := "about", desc := "(LStringShed;I[J)I" } : Jvm.MethodName) method_5_code (4 : Nat) (Option.some Jvm.ClassFile.FieldType.int) [((0 : Nat), (9 : Nat), (12 : Nat), (13 : Nat))] ∈ sx_T := sx_tin 658 rfl rfl
set_option maxRecDepth 100000 in
theorem tw_659 : Cond.methodLink "StringShedLaw" 21 yX7_about ∈ sx_T := sx_tin 659 rfl rfl
set_option maxRecDepth 100000 in
theorem tw_660 : Cond.instanceMethod yX7_about ∈ sx_T := sx_tin 660 rfl rfl
set_option maxRecDepth 100000 in
theorem tw_661 : Cond.selects RX7 yX7_about yX7_about ∈ sx_T := sx_tin 661 rfl rfl
set_option maxRecDepth 100000 in
theorem tw_662 : Jvm.Cond.code ({ cls := "StringShed", name := "about", desc := "(I)I" } : Jvm.MethodName) prog_1_method_6_code (2 : Nat) (Option.some Jvm.ClassFile.FieldType.int) ∈ sx_T := sx_tin 662 rfl rfl
set_option maxRecDepth 100000 in
theorem tw_664 : Cond.methodLink "StringShed" 96 yX3_figure ∈ sx_T := sx_tin 664 rfl rfl
set_option maxRecDepth 100000 in
theorem tw_665 : Cond.instanceMethod yX3_figure ∈ sx_T := sx_tin 665 rfl rfl
set_option maxRecDepth 100000 in
theorem tw_666 : Cond.selects RX3 yX3_figure yX3_figure ∈ sx_T := sx_tin 666 rfl rfl
set_option maxRecDepth 100000 in
theorem tw_667 : Jvm.Cond.code ({ cls := "StringShed$Shed", name := "figure", desc := "(I)I" } : Jvm.MethodName) prog_5_method_14_code (2 : Nat) (Option.some Jvm.ClassFile.FieldType.int) ∈ sx_T := sx_tin 667 rfl rfl
set_option maxRecDepth 100000 in
theorem tw_668 : Cond.methodLink "StringShed$Shed" 88 yX3_swept ∈ sx_T := sx_tin 668 rfl rfl
set_option maxRecDepth 100000 in
theorem tw_669 : Cond.methodLink "StringShed$Shed" 94 yX4_frayed ∈ sx_T := sx_tin 669 rfl rfl
set_option maxRecDepth 100000 in
theorem tw_670 : Cond.instanceMethod yX4_frayed ∈ sx_T := sx_tin 670 rfl rfl
set_option maxRecDepth 100000 in
theorem tw_671 : Cond.selects RX4 yX4_frayed yX4_frayed ∈ sx_T := sx_tin 671 rfl rfl
set_option maxRecDepth 100000 in
theorem tw_672 : Jvm.Cond.code ({ cls := "StringShed$Strings", name := "frayed", desc := "()I" } : Jvm.MethodName) prog_6_method_17_code (3 : Nat) (Option.some Jvm.ClassFile.FieldType.int) ∈ sx_T := sx_tin 672 rfl rfl
set_option maxRecDepth 100000 in
theorem tw_673 : Cond.methodLink "StringShed$Shed" 101 yX4_greatestDepth ∈ sx_T := sx_tin 673 rfl rfl
set_option maxRecDepth 100000 in
theorem tw_674 : Cond.instanceMethod yX4_greatestDepth ∈ sx_T := sx_tin 674 rfl rfl
set_option maxRecDepth 100000 in
theorem tw_675 : Cond.selects RX4 yX4_greatestDepth yX4_greatestDepth ∈ sx_T := sx_tin 675 rfl rfl
set_option maxRecDepth 100000 in
theorem tw_676 : Jvm.Cond.code ({ cls := "StringShed$Strings", name := "greatestDepth", desc := "(I)I" } : Jvm.MethodName) prog_6_method_23_code (5 : Nat) (Option.some Jvm.ClassFile.FieldType.int) ∈ sx_T := sx_tin 676 rfl rfl
set_option maxRecDepth 100000 in
theorem tw_677 : Cond.methodLink "StringShedLaw" 116 yL_part ∈ sx_T := sx_tin 677 rfl rfl
set_option maxRecDepth 100000 in
theorem tw_678 : Cond.static yL_part ∈ sx_T := sx_tin 678 rfl rfl
set_option maxRecDepth 100000 in
theorem tw_679 : Jvm.Cond.codeWith ({ cls := "StringShedLaw", name := "part", desc := "(LStringShed;II[J)I" } : Jvm.MethodName) method_6_code (5 : Nat) (Option.some Jvm.ClassFile.FieldType.int) [((0 : Nat), (10 : Nat), (13 : Nat), (28 : Nat)), ((0 : Nat), (10 : Nat), (17 : Nat), (13 : Nat))] ∈ sx_T := sx_tin 679 rfl rfl
set_option maxRecDepth 100000 in
theorem tw_680 : Jvm.Cond.classLink "StringShedLaw" (28 : Nat) "java/lang/IndexOutOfBoundsException" ∈ sx_T := sx_tin 680 rfl rfl
set_option maxRecDepth 100000 in
theorem tw_681 : Cond.methodLink "StringShedLaw" 24 yX7_part ∈ sx_T := sx_tin 681 rfl rfl
set_option maxRecDepth 100000 in
theorem tw_682 : Cond.instanceMethod yX7_part ∈ sx_T := sx_tin 682 rfl rfl
set_option maxRecDepth 100000 in
theorem tw_683 : Cond.selects RX7 yX7_part yX7_part ∈ sx_T := sx_tin 683 rfl rfl
set_option maxRecDepth 100000 in
theorem tw_684 : Jvm.Cond.code ({ cls := "StringShed", name := "part", desc := "(II)I" } : Jvm.MethodName) prog_1_method_7_code (3 : Nat) (Option.some Jvm.ClassFile.FieldType.int) ∈ sx_T := sx_tin 684 rfl rfl
set_option maxRecDepth 100000 in
theorem tw_685 : Cond.methodLink "StringShed" 99 yX3_partFault ∈ sx_T := sx_tin 685 rfl rfl
set_option maxRecDepth 100000 in
theorem tw_686 : Cond.methodLink "StringShed" 102 yX7_refuse ∈ sx_T := sx_tin 686 rfl rfl
set_option maxRecDepth 100000 in
theorem tw_687 : Cond.static yX7_refuse ∈ sx_T := sx_tin 687 rfl rfl
set_option maxRecDepth 100000 in
theorem tw_688 : Jvm.Cond.code ({ cls := "StringShed", name := "refuse", desc := "(I)V" } : Jvm.MethodName) prog_1_method_20_code (1 : Nat) (Option.none : Option Jvm.ClassFile.FieldType) ∈ sx_T := sx_tin 688 rfl rfl
set_option maxRecDepth 100000 in
theorem tw_689 : Jvm.Cond.classLink "StringShed" (156 : Nat) "java/lang/IndexOutOfBoundsException" ∈ sx_T := sx_tin 689 rfl rfl
set_option maxRecDepth 100000 in
theorem tw_690 : Jvm.Cond.instantiable "java/lang/IndexOutOfBoundsException" (6 : Nat) ∈ sx_T := sx_tin 690 rfl rfl
set_option maxRecDepth 100000 in
theorem tw_693 : Jvm.Cond.lays "java/lang/IndexOutOfBoundsException" "java/lang/Throwable" "cause" "Ljava/lang/Throwable;" ∈ sx_T := sx_tin 693 rfl rfl
set_option maxRecDepth 100000 in
theorem tw_694 : Jvm.Cond.lays "java/lang/IndexOutOfBoundsException" "java/lang/Throwable" "stackTrace" "[Ljava/lang/StackTraceElement;" ∈ sx_T := sx_tin 694 rfl rfl
set_option maxRecDepth 100000 in
theorem tw_695 : Jvm.Cond.lays "java/lang/IndexOutOfBoundsException" "java/lang/Throwable" "suppressedExceptions" "Ljava/util/List;" ∈ sx_T := sx_tin 695 rfl rfl
set_option maxRecDepth 100000 in
theorem tw_696 : Jvm.Cond.lays "java/lang/IndexOutOfBoundsException" "java/lang/Throwable" "detailMessage" "Ljava/lang/String;" ∈ sx_T := sx_tin 696 rfl rfl
set_option maxRecDepth 100000 in
theorem tw_697 : Jvm.Cond.lays "java/lang/IndexOutOfBoundsException" "java/lang/Throwable" "backtrace" "Ljava/lang/Object;" ∈ sx_T := sx_tin 697 rfl rfl
set_option maxRecDepth 100000 in
theorem tw_701 : Jvm.Cond.code ({ cls := "java/lang/IndexOutOfBoundsException", name := "<init>", desc := "(Ljava/lang/String;)V" } : Jvm.MethodName) prog_14_method_2_code (2 : Nat) (Option.none : Option Jvm.ClassFile.FieldType) ∈ sx_T := sx_tin 701 rfl rfl
set_option maxRecDepth 100000 in
theorem tw_703 : Jvm.Cond.lays "java/lang/IndexOutOfBoundsException" "java/lang/Throwable" "depth" "I" ∈ sx_T := sx_tin 703 rfl rfl
set_option maxRecDepth 100000 in
theorem tw_708 : Cond.methodLink "StringShed" 108 yX3_figureOf ∈ sx_T := sx_tin 708 rfl rfl
set_option maxRecDepth 100000 in
theorem tw_709 : Cond.instanceMethod yX3_figureOf ∈ sx_T := sx_tin 709 rfl rfl
set_option maxRecDepth 100000 in
theorem tw_710 : Cond.selects RX3 yX3_figureOf yX3_figureOf ∈ sx_T := sx_tin 710 rfl rfl
set_option maxRecDepth 100000 in
theorem tw_711 : Jvm.Cond.code ({ cls := "StringShed$Shed", name := "figureOf", desc := "(II)I" } : Jvm.MethodName) prog_5_method_15_code (3 : Nat) (Option.some Jvm.ClassFile.FieldType.int) ∈ sx_T := sx_tin 711 rfl rfl
set_option maxRecDepth 100000 in
theorem tw_712 : Cond.methodLink "StringShed$Shed" 104 yX3_isPinned ∈ sx_T := sx_tin 712 rfl rfl
set_option maxRecDepth 100000 in
theorem tw_713 : Cond.methodLink "StringShed$Shed" 107 yX3_depthOf ∈ sx_T := sx_tin 713 rfl rfl
set_option maxRecDepth 100000 in
theorem tw_714 : Cond.instanceMethod yX3_depthOf ∈ sx_T := sx_tin 714 rfl rfl
set_option maxRecDepth 100000 in
theorem tw_715 : Cond.selects RX3 yX3_depthOf yX3_depthOf ∈ sx_T := sx_tin 715 rfl rfl
set_option maxRecDepth 100000 in
theorem tw_716 : Jvm.Cond.code ({ cls := "StringShed$Shed", name := "depthOf", desc := "(I)I" } : Jvm.MethodName) prog_5_method_10_code (2 : Nat) (Option.some Jvm.ClassFile.FieldType.int) ∈ sx_T := sx_tin 716 rfl rfl
set_option maxRecDepth 100000 in
theorem tw_717 : Cond.methodLink "StringShed$Shed" 75 yX4_depthOf ∈ sx_T := sx_tin 717 rfl rfl
set_option maxRecDepth 100000 in
theorem tw_718 : Cond.instanceMethod yX4_depthOf ∈ sx_T := sx_tin 718 rfl rfl
set_option maxRecDepth 100000 in
theorem tw_719 : Cond.selects RX4 yX4_depthOf yX4_depthOf ∈ sx_T := sx_tin 719 rfl rfl
set_option maxRecDepth 100000 in
theorem tw_720 : Jvm.Cond.code ({ cls := "StringShed$Strings", name := "depthOf", desc := "(II)I" } : Jvm.MethodName) prog_6_method_22_code (5 : Nat) (Option.some Jvm.ClassFile.FieldType.int) ∈ sx_T := sx_tin 720 rfl rfl
set_option maxRecDepth 100000 in
theorem tw_721 : Cond.methodLink "StringShed$Shed" 109 yX4_soundTo ∈ sx_T := sx_tin 721 rfl rfl
set_option maxRecDepth 100000 in
theorem tw_722 : Cond.instanceMethod yX4_soundTo ∈ sx_T := sx_tin 722 rfl rfl
set_option maxRecDepth 100000 in
theorem tw_723 : Cond.selects RX4 yX4_soundTo yX4_soundTo ∈ sx_T := sx_tin 723 rfl rfl
set_option maxRecDepth 100000 in
theorem tw_724 : Jvm.Cond.code ({ cls := "StringShed$Strings", name := "soundTo", desc := "(I)I" } : Jvm.MethodName) prog_6_method_18_code (4 : Nat) (Option.some Jvm.ClassFile.FieldType.int) ∈ sx_T := sx_tin 724 rfl rfl
set_option maxRecDepth 100000 in
theorem tw_725 : Cond.methodLink "StringShed$Shed" 112 yX4_under ∈ sx_T := sx_tin 725 rfl rfl
set_option maxRecDepth 100000 in
theorem tw_726 : Cond.instanceMethod yX4_under ∈ sx_T := sx_tin 726 rfl rfl
set_option maxRecDepth 100000 in
theorem tw_727 : Cond.selects RX4 yX4_under yX4_under ∈ sx_T := sx_tin 727 rfl rfl
set_option maxRecDepth 100000 in
theorem tw_728 : Jvm.Cond.code ({ cls := "StringShed$Strings", name := "under", desc := "(I)I" } : Jvm.MethodName) prog_6_method_19_code (4 : Nat) (Option.some Jvm.ClassFile.FieldType.int) ∈ sx_T := sx_tin 728 rfl rfl
set_option maxRecDepth 100000 in
theorem tw_729 : Cond.methodLink "StringShed$Shed" 115 yX5_colourOf ∈ sx_T := sx_tin 729 rfl rfl
set_option maxRecDepth 100000 in
theorem tw_730 : Cond.instanceMethod yX5_colourOf ∈ sx_T := sx_tin 730 rfl rfl
set_option maxRecDepth 100000 in
theorem tw_731 : Cond.selects RX5 yX5_colourOf yX5_colourOf ∈ sx_T := sx_tin 731 rfl rfl
set_option maxRecDepth 100000 in
theorem tw_732 : Jvm.Cond.code ({ cls := "StringShed$Sweep", name := "colourOf", desc := "(I)I" } : Jvm.MethodName) prog_7_method_8_code (2 : Nat) (Option.some Jvm.ClassFile.FieldType.int) ∈ sx_T := sx_tin 732 rfl rfl
set_option maxRecDepth 100000 in
theorem tw_733 : Cond.methodLink "StringShedLaw" 120 yL_string ∈ sx_T := sx_tin 733 rfl rfl
set_option maxRecDepth 100000 in
theorem tw_734 : Cond.static yL_string ∈ sx_T := sx_tin 734 rfl rfl
set_option maxRecDepth 100000 in
theorem tw_735 : Jvm.Cond.codeWith ({ cls := "StringShedLaw", name := "string", desc := "(LStringShed;II[J)I" } : Jvm.MethodName) method_7_code (5 : Nat) (Option.some Jvm.ClassFile.FieldType.int) [((0 : Nat), (10 : Nat), (13 : Nat), (28 : Nat))] ∈ sx_T := sx_tin 735 rfl rfl
set_option maxRecDepth 100000 in
theorem tw_736 : Cond.methodLink "StringShedLaw" 30 yX7_string ∈ sx_T := sx_tin 736 rfl rfl
set_option maxRecDepth 100000 in
theorem tw_737 : Cond.instanceMethod yX7_string ∈ sx_T := sx_tin 737 rfl rfl
set_option maxRecDepth 100000 in
theorem tw_738 : Cond.selects RX7 yX7_string yX7_string ∈ sx_T := sx_tin 738 rfl rfl
set_option maxRecDepth 100000 in
theorem tw_739 : Jvm.Cond.code ({ cls := "StringShed", name := "string", desc := "(II)I" } : Jvm.MethodName) prog_1_method_8_code (3 : Nat) (Option.some Jvm.ClassFile.FieldType.int) ∈ sx_T := sx_tin 739 rfl rfl
set_option maxRecDepth 100000 in
theorem tw_740 : Cond.methodLink "StringShed" 112 yX3_placeFault ∈ sx_T := sx_tin 740 rfl rfl
set_option maxRecDepth 100000 in
theorem tw_741 : Cond.methodLink "StringShed" 119 yX4_find ∈ sx_T := sx_tin 741 rfl rfl
set_option maxRecDepth 100000 in
theorem tw_742 : Cond.methodLink "StringShed" 124 yX4_kindAt ∈ sx_T := sx_tin 742 rfl rfl
set_option maxRecDepth 100000 in
theorem tw_743 : Cond.instanceMethod yX4_kindAt ∈ sx_T := sx_tin 743 rfl rfl
set_option maxRecDepth 100000 in
theorem tw_744 : Cond.selects RX4 yX4_kindAt yX4_kindAt ∈ sx_T := sx_tin 744 rfl rfl
set_option maxRecDepth 100000 in
theorem tw_745 : Jvm.Cond.code ({ cls := "StringShed$Strings", name := "kindAt", desc := "(I)I" } : Jvm.MethodName) prog_6_method_10_code (2 : Nat) (Option.some Jvm.ClassFile.FieldType.int) ∈ sx_T := sx_tin 745 rfl rfl
set_option maxRecDepth 100000 in
theorem tw_746 : Cond.methodLink "StringShedLaw" 123 yL_stringAt ∈ sx_T := sx_tin 746 rfl rfl
set_option maxRecDepth 100000 in
theorem tw_747 : Cond.static yL_stringAt ∈ sx_T := sx_tin 747 rfl rfl
set_option maxRecDepth 100000 in
theorem tw_748 : Jvm.Cond.codeWith ({ cls := "StringShedLaw", name := "stringAt", desc := "(LStringShed;I[J)I" } : Jvm.MethodName) method_8_code (4 : Nat) (Option.some Jvm.ClassFile.FieldType.int) [((0 : Nat), (9 : Nat), (12 : Nat), (13 : Nat))] ∈ sx_T := sx_tin 748 rfl rfl
set_option maxRecDepth 100000 in
theorem tw_749 : Cond.methodLink "StringShedLaw" 33 yX7_stringAt ∈ sx_T := sx_tin 749 rfl rfl
set_option maxRecDepth 100000 in
theorem tw_750 : Cond.instanceMethod yX7_stringAt ∈ sx_T := sx_tin 750 rfl rfl
set_option maxRecDepth 100000 in
theorem tw_751 : Cond.selects RX7 yX7_stringAt yX7_stringAt ∈ sx_T := sx_tin 751 rfl rfl
set_option maxRecDepth 100000 in
theorem tw_752 : Jvm.Cond.code ({ cls := "StringShed", name := "stringAt", desc := "(I)I" } : Jvm.MethodName) prog_1_method_9_code (2 : Nat) (Option.some Jvm.ClassFile.FieldType.int) ∈ sx_T := sx_tin 752 rfl rfl
set_option maxRecDepth 100000 in
theorem tw_754 : Cond.methodLink "StringShedLaw" 126 yL_make ∈ sx_T := sx_tin 754 rfl rfl
set_option maxRecDepth 100000 in
theorem tw_755 : Cond.static yL_make ∈ sx_T := sx_tin 755 rfl rfl
set_option maxRecDepth 100000 in
theorem tw_756 : Jvm.Cond.codeWith ({ cls := "StringShedLaw", name := "make", desc := "(LStringShed;I[J)I" } : Jvm.MethodName) method_9_code (4 : Nat) (Option.some Jvm.ClassFile.FieldType.int) [((0 : Nat), (9 : Nat), (12 : Nat), (13 : Nat)), ((0 : Nat), (9 : Nat), (15 : Nat), (15 : Nat))] ∈ sx_T := sx_tin 756 rfl rfl
set_option maxRecDepth 100000 in
theorem tw_757 : Cond.methodLink "StringShedLaw" 36 yX7_make ∈ sx_T := sx_tin 757 rfl rfl
set_option maxRecDepth 100000 in
theorem tw_758 : Cond.instanceMethod yX7_make ∈ sx_T := sx_tin 758 rfl rfl
set_option maxRecDepth 100000 in
theorem tw_759 : Cond.selects RX7 yX7_make yX7_make ∈ sx_T := sx_tin 759 rfl rfl
set_option maxRecDepth 100000 in
theorem tw_760 : Jvm.Cond.code ({ cls := "StringShed", name := "make", desc := "(I)I" } : Jvm.MethodName) prog_1_method_10_code (2 : Nat) (Option.some Jvm.ClassFile.FieldType.int) ∈ sx_T := sx_tin 760 rfl rfl
set_option maxRecDepth 100000 in
theorem tw_761 : Cond.methodLink "StringShed" 132 yX7_act ∈ sx_T := sx_tin 761 rfl rfl
set_option maxRecDepth 100000 in
theorem tw_763 : Cond.instanceMethod yX7_act ∈ sx_T := sx_tin 763 rfl rfl
set_option maxRecDepth 100000 in
theorem tw_764 : Jvm.Cond.code ({ cls := "StringShed", name := "act", desc := "(IIIZ)I" } : Jvm.MethodName) prog_1_method_19_code (5 : Nat) (Option.some Jvm.ClassFile.FieldType.int) ∈ sx_T := sx_tin 764 rfl rfl
set_option maxRecDepth 100000 in
theorem tw_765 : Cond.methodLink "StringShed" 145 yX3_faultOf ∈ sx_T := sx_tin 765 rfl rfl
set_option maxRecDepth 100000 in
theorem tw_766 : Cond.methodLink "StringShed" 149 yX1_remember ∈ sx_T := sx_tin 766 rfl rfl
set_option maxRecDepth 100000 in
theorem tw_767 : Cond.instanceMethod yX1_remember ∈ sx_T := sx_tin 767 rfl rfl
set_option maxRecDepth 100000 in
theorem tw_768 : Cond.selects RX1 yX1_remember yX1_remember ∈ sx_T := sx_tin 768 rfl rfl
set_option maxRecDepth 100000 in
theorem tw_769 : Jvm.Cond.code ({ cls := "StringShed$Past", name := "remember", desc := "(LStringShed$Shed;)V" } : Jvm.MethodName) prog_3_method_4_code (3 : Nat) (Option.none : Option Jvm.ClassFile.FieldType) ∈ sx_T := sx_tin 769 rfl rfl
set_option maxRecDepth 100000 in
theorem tw_770 : Cond.methodLink "StringShed$Past" 25 yX1_stateAt ∈ sx_T := sx_tin 770 rfl rfl
set_option maxRecDepth 100000 in
theorem tw_772 : Cond.instanceMethod yX1_stateAt ∈ sx_T := sx_tin 772 rfl rfl
set_option maxRecDepth 100000 in
theorem tw_773 : Jvm.Cond.code ({ cls := "StringShed$Past", name := "stateAt", desc := "(I)LStringShed$Shed;" } : Jvm.MethodName) prog_3_method_6_code (2 : Nat) (Option.some (Jvm.ClassFile.FieldType.object "StringShed$Shed")) ∈ sx_T := sx_tin 773 rfl rfl
set_option maxRecDepth 100000 in
theorem tw_774 : Cond.methodLink "StringShed$Past" 33 yJ9_floorMod_7cf53 ∈ sx_T := sx_tin 774 rfl rfl
set_option maxRecDepth 100000 in
theorem tw_775 : Cond.static yJ9_floorMod_7cf53 ∈ sx_T := sx_tin 775 rfl rfl
set_option maxRecDepth 100000 in
theorem tw_776 : Jvm.Cond.code ({ cls := "java/lang/Math", name := "floorMod", desc := "(II)I" } : Jvm.MethodName) prog_16_method_50_code (3 : Nat) (Option.some Jvm.ClassFile.FieldType.int) ∈ sx_T := sx_tin 776 rfl rfl
set_option maxRecDepth 100000 in
theorem tw_777 : Cond.methodLink "StringShed$Past" 29 yX3_copyFrom ∈ sx_T := sx_tin 777 rfl rfl
set_option maxRecDepth 100000 in
theorem tw_778 : Cond.methodLink "StringShed" 153 yX3_perform ∈ sx_T := sx_tin 778 rfl rfl
set_option maxRecDepth 100000 in
theorem tw_779 : Cond.methodLink "StringShedLaw" 129 yL_tie ∈ sx_T := sx_tin 779 rfl rfl
set_option maxRecDepth 100000 in
theorem tw_780 : Cond.static yL_tie ∈ sx_T := sx_tin 780 rfl rfl
set_option maxRecDepth 100000 in
theorem tw_781 : Jvm.Cond.codeWith ({ cls := "StringShedLaw", name := "tie", desc := "(LStringShed;IIZ[J)I" } : Jvm.MethodName) method_10_code (6 : Nat) (Option.some Jvm.ClassFile.FieldType.int) [((0 : Nat), (12 : Nat), (15 : Nat), (28 : Nat)), ((0 : Nat), (12 : Nat), (19 : Nat), (13 : Nat)), ((0 : Nat), (12 : Nat), (23 : Nat), (15 : Nat))] ∈ sx_T := sx_tin 781 rfl rfl
set_option maxRecDepth 100000 in
theorem tw_782 : Cond.methodLink "StringShedLaw" 39 yX7_tie ∈ sx_T := sx_tin 782 rfl rfl
set_option maxRecDepth 100000 in
theorem tw_783 : Cond.instanceMethod yX7_tie ∈ sx_T := sx_tin 783 rfl rfl
set_option maxRecDepth 100000 in
theorem tw_784 : Cond.selects RX7 yX7_tie yX7_tie ∈ sx_T := sx_tin 784 rfl rfl
set_option maxRecDepth 100000 in
theorem tw_785 : Jvm.Cond.code ({ cls := "StringShed", name := "tie", desc := "(IIZ)I" } : Jvm.MethodName) prog_1_method_11_code (4 : Nat) (Option.some Jvm.ClassFile.FieldType.int) ∈ sx_T := sx_tin 785 rfl rfl
set_option maxRecDepth 100000 in
theorem tw_786 : Cond.methodLink "StringShedLaw" 133 yL_cut ∈ sx_T := sx_tin 786 rfl rfl
set_option maxRecDepth 100000 in
theorem tw_787 : Cond.static yL_cut ∈ sx_T := sx_tin 787 rfl rfl
set_option maxRecDepth 100000 in
theorem tw_788 : Jvm.Cond.codeWith ({ cls := "StringShedLaw", name := "cut", desc := "(LStringShed;II[J)I" } : Jvm.MethodName) method_11_code (5 : Nat) (Option.some Jvm.ClassFile.FieldType.int) [((0 : Nat), (10 : Nat), (13 : Nat), (28 : Nat))] ∈ sx_T := sx_tin 788 rfl rfl
set_option maxRecDepth 100000 in
theorem tw_789 : Cond.methodLink "StringShedLaw" 43 yX7_cut ∈ sx_T := sx_tin 789 rfl rfl
set_option maxRecDepth 100000 in
theorem tw_790 : Cond.instanceMethod yX7_cut ∈ sx_T := sx_tin 790 rfl rfl
set_option maxRecDepth 100000 in
theorem tw_791 : Cond.selects RX7 yX7_cut yX7_cut ∈ sx_T := sx_tin 791 rfl rfl
set_option maxRecDepth 100000 in
theorem tw_792 : Jvm.Cond.code ({ cls := "StringShed", name := "cut", desc := "(II)I" } : Jvm.MethodName) prog_1_method_12_code (3 : Nat) (Option.some Jvm.ClassFile.FieldType.int) ∈ sx_T := sx_tin 792 rfl rfl
set_option maxRecDepth 100000 in
theorem tw_793 : Cond.methodLink "StringShedLaw" 136 yL_fray ∈ sx_T := sx_tin 793 rfl rfl
set_option maxRecDepth 100000 in
theorem tw_794 : Cond.static yL_fray ∈ sx_T := sx_tin 794 rfl rfl
set_option maxRecDepth 100000 in
theorem tw_795 : Jvm.Cond.codeWith ({ cls := "StringShedLaw", name := "fray", desc := "(LStringShed;II[J)I" } : Jvm.MethodName) method_12_code (5 : Nat) (Option.some Jvm.ClassFile.FieldType.int) [((0 : Nat), (10 : Nat), (13 : Nat), (28 : Nat)), ((0 : Nat), (10 : Nat), (17 : Nat), (15 : Nat))] ∈ sx_T := sx_tin 795 rfl rfl
set_option maxRecDepth 100000 in
theorem tw_796 : Cond.methodLink "StringShedLaw" 46 yX7_fray ∈ sx_T := sx_tin 796 rfl rfl
set_option maxRecDepth 100000 in
theorem tw_797 : Cond.instanceMethod yX7_fray ∈ sx_T := sx_tin 797 rfl rfl
set_option maxRecDepth 100000 in
theorem tw_798 : Cond.selects RX7 yX7_fray yX7_fray ∈ sx_T := sx_tin 798 rfl rfl
set_option maxRecDepth 100000 in
theorem tw_799 : Jvm.Cond.code ({ cls := "StringShed", name := "fray", desc := "(II)I" } : Jvm.MethodName) prog_1_method_13_code (3 : Nat) (Option.some Jvm.ClassFile.FieldType.int) ∈ sx_T := sx_tin 799 rfl rfl
set_option maxRecDepth 100000 in
theorem tw_800 : Cond.methodLink "StringShedLaw" 139 yL_mend ∈ sx_T := sx_tin 800 rfl rfl
set_option maxRecDepth 100000 in
theorem tw_801 : Cond.static yL_mend ∈ sx_T := sx_tin 801 rfl rfl
set_option maxRecDepth 100000 in
theorem tw_802 : Jvm.Cond.codeWith ({ cls := "StringShedLaw", name := "mend", desc := "(LStringShed;II[J)I" } : Jvm.MethodName) method_13_code (5 : Nat) (Option.some Jvm.ClassFile.FieldType.int) [((0 : Nat), (10 : Nat), (13 : Nat), (28 : Nat)), ((0 : Nat), (10 : Nat), (17 : Nat), (15 : Nat))] ∈ sx_T := sx_tin 802 rfl rfl
set_option maxRecDepth 100000 in
theorem tw_803 : Cond.methodLink "StringShedLaw" 49 yX7_mend ∈ sx_T := sx_tin 803 rfl rfl
set_option maxRecDepth 100000 in
theorem tw_804 : Cond.instanceMethod yX7_mend ∈ sx_T := sx_tin 804 rfl rfl
set_option maxRecDepth 100000 in
theorem tw_805 : Cond.selects RX7 yX7_mend yX7_mend ∈ sx_T := sx_tin 805 rfl rfl
set_option maxRecDepth 100000 in
theorem tw_806 : Jvm.Cond.code ({ cls := "StringShed", name := "mend", desc := "(II)I" } : Jvm.MethodName) prog_1_method_14_code (3 : Nat) (Option.some Jvm.ClassFile.FieldType.int) ∈ sx_T := sx_tin 806 rfl rfl
set_option maxRecDepth 100000 in
theorem tw_807 : Cond.methodLink "StringShedLaw" 142 yL_pin ∈ sx_T := sx_tin 807 rfl rfl
set_option maxRecDepth 100000 in
theorem tw_808 : Cond.static yL_pin ∈ sx_T := sx_tin 808 rfl rfl
set_option maxRecDepth 100000 in
theorem tw_809 : Jvm.Cond.codeWith ({ cls := "StringShedLaw", name := "pin", desc := "(LStringShed;IZ[J)I" } : Jvm.MethodName) method_14_code (5 : Nat) (Option.some Jvm.ClassFile.FieldType.int) [((0 : Nat), (10 : Nat), (13 : Nat), (28 : Nat))] ∈ sx_T := sx_tin 809 rfl rfl
set_option maxRecDepth 100000 in
theorem tw_810 : Cond.methodLink "StringShedLaw" 52 yX7_pin ∈ sx_T := sx_tin 810 rfl rfl
set_option maxRecDepth 100000 in
theorem tw_811 : Cond.instanceMethod yX7_pin ∈ sx_T := sx_tin 811 rfl rfl
set_option maxRecDepth 100000 in
theorem tw_812 : Cond.selects RX7 yX7_pin yX7_pin ∈ sx_T := sx_tin 812 rfl rfl
set_option maxRecDepth 100000 in
theorem tw_813 : Jvm.Cond.code ({ cls := "StringShed", name := "pin", desc := "(IZ)I" } : Jvm.MethodName) prog_1_method_15_code (3 : Nat) (Option.some Jvm.ClassFile.FieldType.int) ∈ sx_T := sx_tin 813 rfl rfl
set_option maxRecDepth 100000 in
theorem tw_814 : Cond.methodLink "StringShedLaw" 146 yL_begin ∈ sx_T := sx_tin 814 rfl rfl
set_option maxRecDepth 100000 in
theorem tw_815 : Cond.static yL_begin ∈ sx_T := sx_tin 815 rfl rfl
set_option maxRecDepth 100000 in
theorem tw_816 : Jvm.Cond.codeWith ({ cls := "StringShedLaw", name := "begin", desc := "(LStringShed;[J)I" } : Jvm.MethodName) method_15_code (3 : Nat) (Option.some Jvm.ClassFile.FieldType.int) [((0 : Nat), (8 : Nat), (11 : Nat), (15 : Nat))] ∈ sx_T := sx_tin 816 rfl rfl
set_option maxRecDepth 100000 in
theorem tw_817 : Cond.methodLink "StringShedLaw" 56 yX7_begin ∈ sx_T := sx_tin 817 rfl rfl
set_option maxRecDepth 100000 in
theorem tw_818 : Cond.instanceMethod yX7_begin ∈ sx_T := sx_tin 818 rfl rfl
set_option maxRecDepth 100000 in
theorem tw_819 : Cond.selects RX7 yX7_begin yX7_begin ∈ sx_T := sx_tin 819 rfl rfl
set_option maxRecDepth 100000 in
theorem tw_820 : Jvm.Cond.code ({ cls := "StringShed", name := "begin", desc := "()I" } : Jvm.MethodName) prog_1_method_16_code (1 : Nat) (Option.some Jvm.ClassFile.FieldType.int) ∈ sx_T := sx_tin 820 rfl rfl
set_option maxRecDepth 100000 in
theorem tw_821 : Cond.methodLink "StringShedLaw" 149 yL_step ∈ sx_T := sx_tin 821 rfl rfl
set_option maxRecDepth 100000 in
theorem tw_822 : Cond.static yL_step ∈ sx_T := sx_tin 822 rfl rfl
set_option maxRecDepth 100000 in
theorem tw_823 : Jvm.Cond.codeWith ({ cls := "StringShedLaw", name := "step", desc := "(LStringShed;[J)I" } : Jvm.MethodName) method_16_code (3 : Nat) (Option.some Jvm.ClassFile.FieldType.int) [((0 : Nat), (8 : Nat), (11 : Nat), (15 : Nat))] ∈ sx_T := sx_tin 823 rfl rfl
set_option maxRecDepth 100000 in
theorem tw_824 : Cond.methodLink "StringShedLaw" 59 yX7_step ∈ sx_T := sx_tin 824 rfl rfl
set_option maxRecDepth 100000 in
theorem tw_825 : Cond.instanceMethod yX7_step ∈ sx_T := sx_tin 825 rfl rfl
set_option maxRecDepth 100000 in
theorem tw_826 : Cond.selects RX7 yX7_step yX7_step ∈ sx_T := sx_tin 826 rfl rfl
set_option maxRecDepth 100000 in
theorem tw_827 : Jvm.Cond.code ({ cls := "StringShed", name := "step", desc := "()I" } : Jvm.MethodName) prog_1_method_17_code (1 : Nat) (Option.some Jvm.ClassFile.FieldType.int) ∈ sx_T := sx_tin 827 rfl rfl
set_option maxRecDepth 100000 in
theorem tw_828 : Cond.methodLink "StringShedLaw" 152 yL_undo ∈ sx_T := sx_tin 828 rfl rfl
set_option maxRecDepth 100000 in
theorem tw_829 : Cond.static yL_undo ∈ sx_T := sx_tin 829 rfl rfl
set_option maxRecDepth 100000 in
theorem tw_830 : Jvm.Cond.codeWith ({ cls := "StringShedLaw", name := "undo", desc := "(LStringShed;[J)I" } : Jvm.MethodName) method_17_code (3 : Nat) (Option.some Jvm.ClassFile.FieldType.int) [((0 : Nat), (8 : Nat), (11 : Nat), (15 : Nat))] ∈ sx_T := sx_tin 830 rfl rfl
set_option maxRecDepth 100000 in
theorem tw_831 : Cond.methodLink "StringShedLaw" 62 yX7_undo ∈ sx_T := sx_tin 831 rfl rfl
set_option maxRecDepth 100000 in
theorem tw_832 : Cond.instanceMethod yX7_undo ∈ sx_T := sx_tin 832 rfl rfl
set_option maxRecDepth 100000 in
theorem tw_833 : Cond.selects RX7 yX7_undo yX7_undo ∈ sx_T := sx_tin 833 rfl rfl
set_option maxRecDepth 100000 in
theorem tw_834 : Jvm.Cond.code ({ cls := "StringShed", name := "undo", desc := "()I" } : Jvm.MethodName) prog_1_method_18_code (1 : Nat) (Option.some Jvm.ClassFile.FieldType.int) ∈ sx_T := sx_tin 834 rfl rfl
set_option maxRecDepth 100000 in
theorem tw_835 : Cond.methodLink "StringShed" 136 yX1_isEmpty ∈ sx_T := sx_tin 835 rfl rfl
set_option maxRecDepth 100000 in
theorem tw_836 : Cond.instanceMethod yX1_isEmpty ∈ sx_T := sx_tin 836 rfl rfl
set_option maxRecDepth 100000 in
theorem tw_837 : Cond.selects RX1 yX1_isEmpty yX1_isEmpty ∈ sx_T := sx_tin 837 rfl rfl
set_option maxRecDepth 100000 in
theorem tw_838 : Jvm.Cond.code ({ cls := "StringShed$Past", name := "isEmpty", desc := "()Z" } : Jvm.MethodName) prog_3_method_2_code (1 : Nat) (Option.some Jvm.ClassFile.FieldType.boolean) ∈ sx_T := sx_tin 838 rfl rfl
set_option maxRecDepth 100000 in
theorem tw_840 : Cond.methodLink "StringShed" 141 yX1_takeBack ∈ sx_T := sx_tin 840 rfl rfl
set_option maxRecDepth 100000 in
theorem tw_841 : Cond.instanceMethod yX1_takeBack ∈ sx_T := sx_tin 841 rfl rfl
set_option maxRecDepth 100000 in
theorem tw_842 : Cond.selects RX1 yX1_takeBack yX1_takeBack ∈ sx_T := sx_tin 842 rfl rfl
set_option maxRecDepth 100000 in
theorem tw_843 : Jvm.Cond.code ({ cls := "StringShed$Past", name := "takeBack", desc := "(LStringShed$Shed;)I" } : Jvm.MethodName) prog_3_method_5_code (2 : Nat) (Option.some Jvm.ClassFile.FieldType.int) ∈ sx_T := sx_tin 843 rfl rfl
set_option maxRecDepth 100000 in
theorem tw_844 : Cond.methodLink "StringShedLaw" 155 yL_falls ∈ sx_T := sx_tin 844 rfl rfl
set_option maxRecDepth 100000 in
theorem tw_845 : Cond.static yL_falls ∈ sx_T := sx_tin 845 rfl rfl
set_option maxRecDepth 100000 in
theorem tw_846 : Jvm.Cond.codeWith ({ cls := "StringShedLaw", name := "falls", desc := "(LStringShed;II[J)I" } : Jvm.MethodName) method_18_code (5 : Nat) (Option.some Jvm.ClassFile.FieldType.int) [((0 : Nat), (10 : Nat), (13 : Nat), (28 : Nat))] ∈ sx_T := sx_tin 846 rfl rfl
set_option maxRecDepth 100000 in
theorem tw_847 : Cond.methodLink "StringShedLaw" 65 yX7_falls ∈ sx_T := sx_tin 847 rfl rfl
set_option maxRecDepth 100000 in
theorem tw_848 : Cond.instanceMethod yX7_falls ∈ sx_T := sx_tin 848 rfl rfl
set_option maxRecDepth 100000 in
theorem tw_849 : Cond.selects RX7 yX7_falls yX7_falls ∈ sx_T := sx_tin 849 rfl rfl
set_option maxRecDepth 100000 in
theorem tw_850 : Jvm.Cond.code ({ cls := "StringShed", name := "falls", desc := "(II)I" } : Jvm.MethodName) prog_1_method_21_code (3 : Nat) (Option.some Jvm.ClassFile.FieldType.int) ∈ sx_T := sx_tin 850 rfl rfl
set_option maxRecDepth 100000 in
theorem tw_851 : Cond.methodLink "StringShedLaw" 158 yL_cuts ∈ sx_T := sx_tin 851 rfl rfl
set_option maxRecDepth 100000 in
theorem tw_852 : Cond.static yL_cuts ∈ sx_T := sx_tin 852 rfl rfl
set_option maxRecDepth 100000 in
theorem tw_853 : Jvm.Cond.codeWith ({ cls := "StringShedLaw", name := "cuts", desc := "(LStringShed;I[J)I" } : Jvm.MethodName) method_19_code (4 : Nat) (Option.some Jvm.ClassFile.FieldType.int) [((0 : Nat), (9 : Nat), (12 : Nat), (28 : Nat))] ∈ sx_T := sx_tin 853 rfl rfl
set_option maxRecDepth 100000 in
theorem tw_854 : Cond.methodLink "StringShedLaw" 68 yX7_cuts ∈ sx_T := sx_tin 854 rfl rfl
set_option maxRecDepth 100000 in
theorem tw_855 : Cond.instanceMethod yX7_cuts ∈ sx_T := sx_tin 855 rfl rfl
set_option maxRecDepth 100000 in
theorem tw_856 : Cond.selects RX7 yX7_cuts yX7_cuts ∈ sx_T := sx_tin 856 rfl rfl
set_option maxRecDepth 100000 in
theorem tw_857 : Jvm.Cond.code ({ cls := "StringShed", name := "cuts", desc := "(I)I" } : Jvm.MethodName) prog_1_method_22_code (2 : Nat) (Option.some Jvm.ClassFile.FieldType.int) ∈ sx_T := sx_tin 857 rfl rfl
set_option maxRecDepth 100000 in
theorem tw_858 : Cond.methodLink "StringShed" 168 yX3_isPinned ∈ sx_T := sx_tin 858 rfl rfl
set_option maxRecDepth 100000 in
theorem tw_859 : Cond.methodLink "StringShed" 171 yX3_holders ∈ sx_T := sx_tin 859 rfl rfl
set_option maxRecDepth 100000 in
theorem tw_860 : Cond.methodLink "StringShed" 174 yX0_fewest ∈ sx_T := sx_tin 860 rfl rfl
set_option maxRecDepth 100000 in
theorem tw_861 : Cond.instanceMethod yX0_fewest ∈ sx_T := sx_tin 861 rfl rfl
set_option maxRecDepth 100000 in
theorem tw_862 : Cond.selects RX0 yX0_fewest yX0_fewest ∈ sx_T := sx_tin 862 rfl rfl
set_option maxRecDepth 100000 in
theorem tw_863 : Jvm.Cond.code ({ cls := "StringShed$Cutter", name := "fewest", desc := "(LStringShed$Strings;II)I" } : Jvm.MethodName) prog_2_method_2_code (6 : Nat) (Option.some Jvm.ClassFile.FieldType.int) ∈ sx_T := sx_tin 863 rfl rfl
set_option maxRecDepth 100000 in
theorem tw_864 : Cond.methodLink "StringShed$Cutter" 19 yX0_findWay ∈ sx_T := sx_tin 864 rfl rfl
set_option maxRecDepth 100000 in
theorem tw_866 : Cond.instanceMethod yX0_findWay ∈ sx_T := sx_tin 866 rfl rfl
set_option maxRecDepth 100000 in
theorem tw_867 : Jvm.Cond.code ({ cls := "StringShed$Cutter", name := "findWay", desc := "(LStringShed$Strings;II)Z" } : Jvm.MethodName) prog_2_method_3_code (6 : Nat) (Option.some Jvm.ClassFile.FieldType.boolean) ∈ sx_T := sx_tin 867 rfl rfl
set_option maxRecDepth 100000 in
theorem tw_869 : Cond.methodLink "StringShed$Cutter" 31 yX0_spread ∈ sx_T := sx_tin 869 rfl rfl
set_option maxRecDepth 100000 in
theorem tw_871 : Cond.instanceMethod yX0_spread ∈ sx_T := sx_tin 871 rfl rfl
set_option maxRecDepth 100000 in
theorem tw_872 : Jvm.Cond.code ({ cls := "StringShed$Cutter", name := "spread", desc := "(LStringShed$Strings;I)I" } : Jvm.MethodName) prog_2_method_4_code (8 : Nat) (Option.some Jvm.ClassFile.FieldType.int) ∈ sx_T := sx_tin 872 rfl rfl
set_option maxRecDepth 100000 in
theorem tw_873 : Cond.methodLink "StringShed$Cutter" 35 yX4_size ∈ sx_T := sx_tin 873 rfl rfl
set_option maxRecDepth 100000 in
theorem tw_874 : Cond.methodLink "StringShed$Cutter" 41 yX0_isUsed ∈ sx_T := sx_tin 874 rfl rfl
set_option maxRecDepth 100000 in
theorem tw_876 : Cond.instanceMethod yX0_isUsed ∈ sx_T := sx_tin 876 rfl rfl
set_option maxRecDepth 100000 in
theorem tw_877 : Jvm.Cond.code ({ cls := "StringShed$Cutter", name := "isUsed", desc := "(I)Z" } : Jvm.MethodName) prog_2_method_6_code (2 : Nat) (Option.some Jvm.ClassFile.FieldType.boolean) ∈ sx_T := sx_tin 877 rfl rfl
set_option maxRecDepth 100000 in
theorem tw_878 : Cond.methodLink "StringShed$Cutter" 45 yX4_belowAt ∈ sx_T := sx_tin 878 rfl rfl
set_option maxRecDepth 100000 in
theorem tw_879 : Cond.methodLink "StringShed$Cutter" 48 yX4_aboveAt ∈ sx_T := sx_tin 879 rfl rfl
set_option maxRecDepth 100000 in
theorem tw_880 : Cond.methodLink "StringShed$Cutter" 51 yX4_isSoundAt ∈ sx_T := sx_tin 880 rfl rfl
set_option maxRecDepth 100000 in
theorem tw_881 : Cond.methodLink "StringShed$Cutter" 23 yX0_takeWay ∈ sx_T := sx_tin 881 rfl rfl
set_option maxRecDepth 100000 in
theorem tw_883 : Cond.instanceMethod yX0_takeWay ∈ sx_T := sx_tin 883 rfl rfl
set_option maxRecDepth 100000 in
theorem tw_884 : Jvm.Cond.code ({ cls := "StringShed$Cutter", name := "takeWay", desc := "(LStringShed$Strings;II)V" } : Jvm.MethodName) prog_2_method_5_code (7 : Nat) (Option.none : Option Jvm.ClassFile.FieldType) ∈ sx_T := sx_tin 884 rfl rfl
set_option maxRecDepth 100000 in
theorem tw_885 : Cond.methodLink "StringShedLaw" 177 yL_way ∈ sx_T := sx_tin 885 rfl rfl
set_option maxRecDepth 100000 in
theorem tw_886 : Cond.static yL_way ∈ sx_T := sx_tin 886 rfl rfl
set_option maxRecDepth 100000 in
theorem tw_887 : Jvm.Cond.codeWith ({ cls := "StringShedLaw", name := "way", desc := "(LStringShed;II[J)I" } : Jvm.MethodName) method_20_code (5 : Nat) (Option.some Jvm.ClassFile.FieldType.int) [((0 : Nat), (10 : Nat), (13 : Nat), (28 : Nat)), ((0 : Nat), (10 : Nat), (17 : Nat), (13 : Nat))] ∈ sx_T := sx_tin 887 rfl rfl
set_option maxRecDepth 100000 in
theorem tw_888 : Cond.methodLink "StringShedLaw" 71 yX7_way ∈ sx_T := sx_tin 888 rfl rfl
set_option maxRecDepth 100000 in
theorem tw_889 : Cond.instanceMethod yX7_way ∈ sx_T := sx_tin 889 rfl rfl
set_option maxRecDepth 100000 in
theorem tw_890 : Cond.selects RX7 yX7_way yX7_way ∈ sx_T := sx_tin 890 rfl rfl
set_option maxRecDepth 100000 in
theorem tw_891 : Jvm.Cond.code ({ cls := "StringShed", name := "way", desc := "(II)I" } : Jvm.MethodName) prog_1_method_27_code (3 : Nat) (Option.some Jvm.ClassFile.FieldType.int) ∈ sx_T := sx_tin 891 rfl rfl
set_option maxRecDepth 100000 in
theorem tw_892 : Cond.methodLink "StringShed" 211 yX4_onWay ∈ sx_T := sx_tin 892 rfl rfl
set_option maxRecDepth 100000 in
theorem tw_893 : Cond.instanceMethod yX4_onWay ∈ sx_T := sx_tin 893 rfl rfl
set_option maxRecDepth 100000 in
theorem tw_894 : Cond.selects RX4 yX4_onWay yX4_onWay ∈ sx_T := sx_tin 894 rfl rfl
set_option maxRecDepth 100000 in
theorem tw_895 : Jvm.Cond.code ({ cls := "StringShed$Strings", name := "onWay", desc := "(III)I" } : Jvm.MethodName) prog_6_method_24_code (7 : Nat) (Option.some Jvm.ClassFile.FieldType.int) ∈ sx_T := sx_tin 895 rfl rfl
set_option maxRecDepth 100000 in
theorem tw_896 : Cond.methodLink "StringShed$Strings" 37 yX4_depthOf ∈ sx_T := sx_tin 896 rfl rfl
set_option maxRecDepth 100000 in
theorem tw_897 : Cond.methodLink "StringShed$Strings" 41 yX4_firstAbove ∈ sx_T := sx_tin 897 rfl rfl
set_option maxRecDepth 100000 in
theorem tw_899 : Cond.instanceMethod yX4_firstAbove ∈ sx_T := sx_tin 899 rfl rfl
set_option maxRecDepth 100000 in
theorem tw_900 : Jvm.Cond.code ({ cls := "StringShed$Strings", name := "firstAbove", desc := "(III)I" } : Jvm.MethodName) prog_6_method_25_code (5 : Nat) (Option.some Jvm.ClassFile.FieldType.int) ∈ sx_T := sx_tin 900 rfl rfl
set_option maxRecDepth 100000 in
theorem tw_901 : Cond.methodLink "StringShedLaw" 182 yL_runScript ∈ sx_T := sx_tin 901 rfl rfl
set_option maxRecDepth 100000 in
theorem tw_902 : Cond.static yL_runScript ∈ sx_T := sx_tin 902 rfl rfl
set_option maxRecDepth 100000 in
theorem tw_903 : Jvm.Cond.codeWith ({ cls := "StringShedLaw", name := "runScript", desc := "(LStringShed;IJ[J)I" } : Jvm.MethodName) method_21_code (6 : Nat) (Option.some Jvm.ClassFile.FieldType.int) [((0 : Nat), (11 : Nat), (14 : Nat), (13 : Nat))] ∈ sx_T := sx_tin 903 rfl rfl
set_option maxRecDepth 100000 in
theorem tw_904 : Cond.methodLink "StringShedLaw" 74 yX7_runScript ∈ sx_T := sx_tin 904 rfl rfl
set_option maxRecDepth 100000 in
theorem tw_905 : Cond.instanceMethod yX7_runScript ∈ sx_T := sx_tin 905 rfl rfl
set_option maxRecDepth 100000 in
theorem tw_906 : Cond.selects RX7 yX7_runScript yX7_runScript ∈ sx_T := sx_tin 906 rfl rfl
set_option maxRecDepth 100000 in
theorem tw_907 : Jvm.Cond.code ({ cls := "StringShed", name := "runScript", desc := "(IJ)I" } : Jvm.MethodName) prog_1_method_28_code (5 : Nat) (Option.some Jvm.ClassFile.FieldType.int) ∈ sx_T := sx_tin 907 rfl rfl
set_option maxRecDepth 100000 in
theorem tw_909 : Cond.methodLink "StringShed" 216 yX2_limit ∈ sx_T := sx_tin 909 rfl rfl
set_option maxRecDepth 100000 in
theorem tw_910 : Cond.static yX2_limit ∈ sx_T := sx_tin 910 rfl rfl
set_option maxRecDepth 100000 in
theorem tw_911 : Jvm.Cond.code ({ cls := "StringShed$Script", name := "limit", desc := "(I)J" } : Jvm.MethodName) prog_4_method_2_code (4 : Nat) (Option.some Jvm.ClassFile.FieldType.long) ∈ sx_T := sx_tin 911 rfl rfl
set_option maxRecDepth 100000 in
theorem tw_912 : Jvm.Cond.constantLong "StringShed$Script" (11 : Nat) (100000 : Int64) ∈ sx_T := sx_tin 912 rfl rfl
set_option maxRecDepth 100000 in
theorem tw_914 : Cond.methodLink "StringShed" 224 yX2_groupAt ∈ sx_T := sx_tin 914 rfl rfl
set_option maxRecDepth 100000 in
theorem tw_915 : Cond.static yX2_groupAt ∈ sx_T := sx_tin 915 rfl rfl
set_option maxRecDepth 100000 in
theorem tw_916 : Jvm.Cond.code ({ cls := "StringShed$Script", name := "groupAt", desc := "(JI)I" } : Jvm.MethodName) prog_4_method_3_code (6 : Nat) (Option.some Jvm.ClassFile.FieldType.int) ∈ sx_T := sx_tin 916 rfl rfl
set_option maxRecDepth 100000 in
theorem tw_917 : Cond.methodLink "StringShed" 228 yX2_succeeds ∈ sx_T := sx_tin 917 rfl rfl
set_option maxRecDepth 100000 in
theorem tw_918 : Cond.static yX2_succeeds ∈ sx_T := sx_tin 918 rfl rfl
set_option maxRecDepth 100000 in
theorem tw_919 : Jvm.Cond.code ({ cls := "StringShed$Script", name := "succeeds", desc := "(LStringShed$Shed;I)Z" } : Jvm.MethodName) prog_4_method_4_code (5 : Nat) (Option.some Jvm.ClassFile.FieldType.boolean) ∈ sx_T := sx_tin 919 rfl rfl
set_option maxRecDepth 100000 in
theorem tw_920 : Cond.methodLink "StringShed$Script" 13 yX3_attempt ∈ sx_T := sx_tin 920 rfl rfl
set_option maxRecDepth 100000 in
theorem tw_921 : Cond.methodLink "StringShed$Script" 19 yX2_thingOf ∈ sx_T := sx_tin 921 rfl rfl
set_option maxRecDepth 100000 in
theorem tw_922 : Cond.static yX2_thingOf ∈ sx_T := sx_tin 922 rfl rfl
set_option maxRecDepth 100000 in
theorem tw_923 : Jvm.Cond.code ({ cls := "StringShed$Script", name := "thingOf", desc := "(I)I" } : Jvm.MethodName) prog_4_method_6_code (1 : Nat) (Option.some Jvm.ClassFile.FieldType.int) ∈ sx_T := sx_tin 923 rfl rfl
set_option maxRecDepth 100000 in
theorem tw_924 : Cond.methodLink "StringShed$Script" 23 yX2_takeSteps ∈ sx_T := sx_tin 924 rfl rfl
set_option maxRecDepth 100000 in
theorem tw_925 : Cond.static yX2_takeSteps ∈ sx_T := sx_tin 925 rfl rfl
set_option maxRecDepth 100000 in
theorem tw_926 : Jvm.Cond.code ({ cls := "StringShed$Script", name := "takeSteps", desc := "(LStringShed$Shed;I)Z" } : Jvm.MethodName) prog_4_method_5_code (3 : Nat) (Option.some Jvm.ClassFile.FieldType.boolean) ∈ sx_T := sx_tin 926 rfl rfl
set_option maxRecDepth 100000 in
theorem tw_927 : Cond.methodLink "StringShed$Script" 45 yX5_isGoing ∈ sx_T := sx_tin 927 rfl rfl
set_option maxRecDepth 100000 in
theorem tw_928 : Cond.methodLink "StringShed$Script" 51 yX3_takeSteps ∈ sx_T := sx_tin 928 rfl rfl
set_option maxRecDepth 100000 in
theorem tw_929 : Cond.methodLink "StringShed$Script" 27 yX3_isPart ∈ sx_T := sx_tin 929 rfl rfl
set_option maxRecDepth 100000 in
theorem tw_930 : Cond.methodLink "StringShed$Script" 31 yX3_depthOf ∈ sx_T := sx_tin 930 rfl rfl
set_option maxRecDepth 100000 in
theorem tw_931 : Cond.methodLink "StringShed$Script" 34 yX3_held ∈ sx_T := sx_tin 931 rfl rfl
set_option maxRecDepth 100000 in
theorem tw_932 : Cond.methodLink "StringShed$Script" 38 yX3_weightOf ∈ sx_T := sx_tin 932 rfl rfl
set_option maxRecDepth 100000 in
theorem tw_933 : Cond.methodLink "StringShedLaw" 186 yL_simulate ∈ sx_T := sx_tin 933 rfl rfl
set_option maxRecDepth 100000 in
theorem tw_934 : Cond.static yL_simulate ∈ sx_T := sx_tin 934 rfl rfl
set_option maxRecDepth 100000 in
theorem tw_935 : Jvm.Cond.codeWith ({ cls := "StringShedLaw", name := "simulate", desc := "(LStringShed;JI[J)I" } : Jvm.MethodName) method_22_code (6 : Nat) (Option.some Jvm.ClassFile.FieldType.int) [((0 : Nat), (11 : Nat), (14 : Nat), (13 : Nat))] ∈ sx_T := sx_tin 935 rfl rfl
set_option maxRecDepth 100000 in
theorem tw_936 : Cond.methodLink "StringShedLaw" 78 yX7_simulate ∈ sx_T := sx_tin 936 rfl rfl
set_option maxRecDepth 100000 in
theorem tw_937 : Cond.instanceMethod yX7_simulate ∈ sx_T := sx_tin 937 rfl rfl
set_option maxRecDepth 100000 in
theorem tw_938 : Cond.selects RX7 yX7_simulate yX7_simulate ∈ sx_T := sx_tin 938 rfl rfl
set_option maxRecDepth 100000 in
theorem tw_939 : Jvm.Cond.code ({ cls := "StringShed", name := "simulate", desc := "(JI)I" } : Jvm.MethodName) prog_1_method_29_code (7 : Nat) (Option.some Jvm.ClassFile.FieldType.int) ∈ sx_T := sx_tin 939 rfl rfl
set_option maxRecDepth 100000 in
theorem tw_941 : Jvm.Cond.constantLong "StringShed" (234 : Nat) (6364136223846793005 : Int64) ∈ sx_T := sx_tin 941 rfl rfl
set_option maxRecDepth 100000 in
theorem tw_942 : Jvm.Cond.constantLong "StringShed" (236 : Nat) (1442695040888963407 : Int64) ∈ sx_T := sx_tin 942 rfl rfl
set_option maxRecDepth 100000 in
theorem tw_943 : Cond.methodLink "StringShed" 238 yX7_takeTurn ∈ sx_T := sx_tin 943 rfl rfl
set_option maxRecDepth 100000 in
theorem tw_945 : Cond.instanceMethod yX7_takeTurn ∈ sx_T := sx_tin 945 rfl rfl
set_option maxRecDepth 100000 in
theorem tw_946 : Jvm.Cond.code ({ cls := "StringShed", name := "takeTurn", desc := "(I)V" } : Jvm.MethodName) prog_1_method_30_code (4 : Nat) (Option.none : Option Jvm.ClassFile.FieldType) ∈ sx_T := sx_tin 946 rfl rfl
set_option maxRecDepth 100000 in
theorem tw_947 : Cond.methodLink "StringShed" 244 yX3_attempt ∈ sx_T := sx_tin 947 rfl rfl
set_option maxRecDepth 100000 in
theorem tw_948 : Cond.methodLink "StringShed" 241 yX3_weightOf ∈ sx_T := sx_tin 948 rfl rfl
set_option maxRecDepth 100000 in
theorem tw_949 : Cond.methodLink "StringShedLaw" 190 yL_save ∈ sx_T := sx_tin 949 rfl rfl
set_option maxRecDepth 100000 in
theorem tw_950 : Cond.static yL_save ∈ sx_T := sx_tin 950 rfl rfl
set_option maxRecDepth 100000 in
theorem tw_951 : Jvm.Cond.codeWith ({ cls := "StringShedLaw", name := "save", desc := "(LStringShed;I[J)I" } : Jvm.MethodName) method_23_code (4 : Nat) (Option.some Jvm.ClassFile.FieldType.int) [((0 : Nat), (9 : Nat), (12 : Nat), (28 : Nat))] ∈ sx_T := sx_tin 951 rfl rfl
set_option maxRecDepth 100000 in
theorem tw_952 : Cond.methodLink "StringShedLaw" 82 yX7_save ∈ sx_T := sx_tin 952 rfl rfl
set_option maxRecDepth 100000 in
theorem tw_953 : Cond.instanceMethod yX7_save ∈ sx_T := sx_tin 953 rfl rfl
set_option maxRecDepth 100000 in
theorem tw_954 : Cond.selects RX7 yX7_save yX7_save ∈ sx_T := sx_tin 954 rfl rfl
set_option maxRecDepth 100000 in
theorem tw_955 : Jvm.Cond.code ({ cls := "StringShed", name := "save", desc := "(I)I" } : Jvm.MethodName) prog_1_method_31_code (3 : Nat) (Option.some Jvm.ClassFile.FieldType.int) ∈ sx_T := sx_tin 955 rfl rfl
set_option maxRecDepth 100000 in
theorem tw_957 : Cond.methodLink "StringShedLaw" 193 yL_restore ∈ sx_T := sx_tin 957 rfl rfl
set_option maxRecDepth 100000 in
theorem tw_958 : Cond.static yL_restore ∈ sx_T := sx_tin 958 rfl rfl
set_option maxRecDepth 100000 in
theorem tw_959 : Jvm.Cond.codeWith ({ cls := "StringShedLaw", name := "restore", desc := "(LStringShed;I[J)I" } : Jvm.MethodName) method_24_code (4 : Nat) (Option.some Jvm.ClassFile.FieldType.int) [((0 : Nat), (9 : Nat), (12 : Nat), (28 : Nat)), ((0 : Nat), (9 : Nat), (15 : Nat), (15 : Nat))] ∈ sx_T := sx_tin 959 rfl rfl
set_option maxRecDepth 100000 in
theorem tw_960 : Cond.methodLink "StringShedLaw" 85 yX7_restore ∈ sx_T := sx_tin 960 rfl rfl
set_option maxRecDepth 100000 in
theorem tw_961 : Cond.instanceMethod yX7_restore ∈ sx_T := sx_tin 961 rfl rfl
set_option maxRecDepth 100000 in
theorem tw_962 : Cond.selects RX7 yX7_restore yX7_restore ∈ sx_T := sx_tin 962 rfl rfl
set_option maxRecDepth 100000 in
theorem tw_963 : Jvm.Cond.code ({ cls := "StringShed", name := "restore", desc := "(I)I" } : Jvm.MethodName) prog_1_method_32_code (2 : Nat) (Option.some Jvm.ClassFile.FieldType.int) ∈ sx_T := sx_tin 963 rfl rfl
set_option maxRecDepth 100000 in
theorem tw_965 : Jvm.Cond.classLink "StringShedLaw" (89 : Nat) "StringShedModel" ∈ sx_T := sx_tin 965 rfl rfl
set_option maxRecDepth 100000 in
theorem tw_966 : Jvm.Cond.instantiable "StringShedModel" (18 : Nat) ∈ sx_T := sx_tin 966 rfl rfl
set_option maxRecDepth 100000 in
theorem tw_967 : Cond.methodLink "StringShedLaw" 91 yX8_init ∈ sx_T := sx_tin 967 rfl rfl
set_option maxRecDepth 100000 in
theorem tw_968 : Cond.instanceMethod yX8_init ∈ sx_T := sx_tin 968 rfl rfl
set_option maxRecDepth 100000 in
theorem tw_969 : Jvm.Cond.code ({ cls := "StringShedModel", name := "<init>", desc := "()V" } : Jvm.MethodName) prog_10_method_1_code (1 : Nat) (Option.none : Option Jvm.ClassFile.FieldType) ∈ sx_T := sx_tin 969 rfl rfl
set_option maxRecDepth 100000 in
theorem tw_971 : Cond.fieldLink "StringShedModel" 47 "StringShedModel" "refusal" "I" ∈ sx_T := sx_tin 971 rfl rfl
set_option maxRecDepth 100000 in
theorem tw_972 : Cond.fieldLink "StringShedModel" 7 "StringShedModel" "script" "[I" ∈ sx_T := sx_tin 972 rfl rfl
set_option maxRecDepth 100000 in
theorem tw_973 : Cond.fieldLink "StringShedModel" 108 "StringShedModel" "scriptSize" "I" ∈ sx_T := sx_tin 973 rfl rfl
set_option maxRecDepth 100000 in
theorem tw_974 : Cond.fieldLink "StringShedModel" 115 "StringShedModel" "spot" "I" ∈ sx_T := sx_tin 974 rfl rfl
set_option maxRecDepth 100000 in
theorem tw_975 : Cond.fieldLink "StringShedModel" 118 "StringShedModel" "isGood" "Z" ∈ sx_T := sx_tin 975 rfl rfl
set_option maxRecDepth 100000 in
theorem tw_976 : Cond.fieldLink "StringShedModel" 138 "StringShedModel" "leftOut" "I" ∈ sx_T := sx_tin 976 rfl rfl
set_option maxRecDepth 100000 in
theorem tw_977 : Cond.fieldLink "StringShedModel" 13 "StringShedModel" "read" "[I" ∈ sx_T := sx_tin 977 rfl rfl
set_option maxRecDepth 100000 in
theorem tw_978 : Cond.fieldLink "StringShedModel" 16 "StringShedModel" "now" "[I" ∈ sx_T := sx_tin 978 rfl rfl
set_option maxRecDepth 100000 in
theorem tw_979 : Cond.fieldLink "StringShedModel" 19 "StringShedModel" "trial" "[I" ∈ sx_T := sx_tin 979 rfl rfl
set_option maxRecDepth 100000 in
theorem tw_980 : Cond.fieldLink "StringShedModel" 22 "StringShedModel" "diary" "[I" ∈ sx_T := sx_tin 980 rfl rfl
set_option maxRecDepth 100000 in
theorem tw_981 : Cond.fieldLink "StringShedModel" 53 "StringShedModel" "acts" "I" ∈ sx_T := sx_tin 981 rfl rfl
set_option maxRecDepth 100000 in
theorem tw_982 : Cond.fieldLink "StringShedModel" 25 "StringShedModel" "kept" "[I" ∈ sx_T := sx_tin 982 rfl rfl
set_option maxRecDepth 100000 in
theorem tw_983 : Cond.fieldLink "StringShedModel" 28 "StringShedModel" "isKept" "[Z" ∈ sx_T := sx_tin 983 rfl rfl
set_option maxRecDepth 100000 in
theorem tw_984 : Cond.fieldLink "StringShedModel" 32 "StringShedModel" "depth" "[I" ∈ sx_T := sx_tin 984 rfl rfl
set_option maxRecDepth 100000 in
theorem tw_985 : Cond.fieldLink "StringShedModel" 35 "StringShedModel" "wasHeld" "[Z" ∈ sx_T := sx_tin 985 rfl rfl
set_option maxRecDepth 100000 in
theorem tw_986 : Cond.fieldLink "StringShedModel" 38 "StringShedModel" "flows" "[Z" ∈ sx_T := sx_tin 986 rfl rfl
set_option maxRecDepth 100000 in
theorem tw_987 : Cond.fieldLink "StringShedModel" 41 "StringShedModel" "from" "[I" ∈ sx_T := sx_tin 987 rfl rfl
set_option maxRecDepth 100000 in
theorem tw_988 : Cond.fieldLink "StringShedModel" 44 "StringShedModel" "queue" "[I" ∈ sx_T := sx_tin 988 rfl rfl
set_option maxRecDepth 100000 in
theorem tw_989 : Jvm.Cond.lays "StringShedModel" "StringShedModel" "refusal" "I" ∈ sx_T := sx_tin 989 rfl rfl
set_option maxRecDepth 100000 in
theorem tw_991 : Jvm.Cond.laysFinal "StringShedModel" "StringShedModel" "script" "[I" ∈ sx_T := sx_tin 991 rfl rfl
set_option maxRecDepth 100000 in
theorem tw_993 : Jvm.Cond.lays "StringShedModel" "StringShedModel" "scriptSize" "I" ∈ sx_T := sx_tin 993 rfl rfl
set_option maxRecDepth 100000 in
theorem tw_995 : Jvm.Cond.lays "StringShedModel" "StringShedModel" "spot" "I" ∈ sx_T := sx_tin 995 rfl rfl
set_option maxRecDepth 100000 in
theorem tw_997 : Jvm.Cond.lays "StringShedModel" "StringShedModel" "isGood" "Z" ∈ sx_T := sx_tin 997 rfl rfl
set_option maxRecDepth 100000 in
theorem tw_999 : Jvm.Cond.lays "StringShedModel" "StringShedModel" "leftOut" "I" ∈ sx_T := sx_tin 999 rfl rfl
set_option maxRecDepth 100000 in
theorem tw_1001 : Jvm.Cond.laysFinal "StringShedModel" "StringShedModel" "read" "[I" ∈ sx_T := sx_tin 1001 rfl rfl
set_option maxRecDepth 100000 in
theorem tw_1003 : Jvm.Cond.laysFinal "StringShedModel" "StringShedModel" "now" "[I" ∈ sx_T := sx_tin 1003 rfl rfl
set_option maxRecDepth 100000 in
theorem tw_1005 : Jvm.Cond.laysFinal "StringShedModel" "StringShedModel" "trial" "[I" ∈ sx_T := sx_tin 1005 rfl rfl
set_option maxRecDepth 100000 in
theorem tw_1007 : Jvm.Cond.laysFinal "StringShedModel" "StringShedModel" "diary" "[I" ∈ sx_T := sx_tin 1007 rfl rfl
set_option maxRecDepth 100000 in
theorem tw_1009 : Jvm.Cond.lays "StringShedModel" "StringShedModel" "acts" "I" ∈ sx_T := sx_tin 1009 rfl rfl
set_option maxRecDepth 100000 in
theorem tw_1011 : Jvm.Cond.laysFinal "StringShedModel" "StringShedModel" "kept" "[I" ∈ sx_T := sx_tin 1011 rfl rfl
set_option maxRecDepth 100000 in
theorem tw_1013 : Jvm.Cond.laysFinal "StringShedModel" "StringShedModel" "isKept" "[Z" ∈ sx_T := sx_tin 1013 rfl rfl
set_option maxRecDepth 100000 in
theorem tw_1015 : Jvm.Cond.laysFinal "StringShedModel" "StringShedModel" "depth" "[I" ∈ sx_T := sx_tin 1015 rfl rfl
set_option maxRecDepth 100000 in
theorem tw_1017 : Jvm.Cond.laysFinal "StringShedModel" "StringShedModel" "wasHeld" "[Z" ∈ sx_T := sx_tin 1017 rfl rfl
set_option maxRecDepth 100000 in
theorem tw_1019 : Jvm.Cond.laysFinal "StringShedModel" "StringShedModel" "flows" "[Z" ∈ sx_T := sx_tin 1019 rfl rfl
set_option maxRecDepth 100000 in
theorem tw_1021 : Jvm.Cond.laysFinal "StringShedModel" "StringShedModel" "from" "[I" ∈ sx_T := sx_tin 1021 rfl rfl
set_option maxRecDepth 100000 in
theorem tw_1023 : Jvm.Cond.laysFinal "StringShedModel" "StringShedModel" "queue" "[I" ∈ sx_T := sx_tin 1023 rfl rfl
set_option maxRecDepth 100000 in
theorem tw_1026 : Cond.methodLink "StringShedLaw" 98 yX8_thrown ∈ sx_T := sx_tin 1026 rfl rfl
set_option maxRecDepth 100000 in
theorem tw_1027 : Cond.instanceMethod yX8_thrown ∈ sx_T := sx_tin 1027 rfl rfl
set_option maxRecDepth 100000 in
theorem tw_1028 : Cond.selects RX8 yX8_thrown yX8_thrown ∈ sx_T := sx_tin 1028 rfl rfl
set_option maxRecDepth 100000 in
theorem tw_1029 : Jvm.Cond.code ({ cls := "StringShedModel", name := "thrown", desc := "()I" } : Jvm.MethodName) prog_10_method_2_code (1 : Nat) (Option.some Jvm.ClassFile.FieldType.int) ∈ sx_T := sx_tin 1029 rfl rfl
set_option maxRecDepth 100000 in
theorem tw_1030 : Cond.methodLink "StringShedLaw" 97 yX8_append ∈ sx_T := sx_tin 1030 rfl rfl
set_option maxRecDepth 100000 in
theorem tw_1031 : Cond.instanceMethod yX8_append ∈ sx_T := sx_tin 1031 rfl rfl
set_option maxRecDepth 100000 in
theorem tw_1032 : Cond.selects RX8 yX8_append yX8_append ∈ sx_T := sx_tin 1032 rfl rfl
set_option maxRecDepth 100000 in
theorem tw_1033 : Jvm.Cond.code ({ cls := "StringShedModel", name := "append", desc := "(I)I" } : Jvm.MethodName) prog_10_method_29_code (2 : Nat) (Option.some Jvm.ClassFile.FieldType.int) ∈ sx_T := sx_tin 1033 rfl rfl
set_option maxRecDepth 100000 in
theorem tw_1034 : Jvm.Cond.constantLong "StringShedModel" (106 : Nat) (255 : Int64) ∈ sx_T := sx_tin 1034 rfl rfl
set_option maxRecDepth 100000 in
theorem tw_1035 : Cond.methodLink "StringShedModel" 60 yX8_in ∈ sx_T := sx_tin 1035 rfl rfl
set_option maxRecDepth 100000 in
theorem tw_1036 : Cond.static yX8_in ∈ sx_T := sx_tin 1036 rfl rfl
set_option maxRecDepth 100000 in
theorem tw_1037 : Jvm.Cond.code ({ cls := "StringShedModel", name := "in", desc := "(JJJ)Z" } : Jvm.MethodName) prog_10_method_4_code (6 : Nat) (Option.some Jvm.ClassFile.FieldType.boolean) ∈ sx_T := sx_tin 1037 rfl rfl
set_option maxRecDepth 100000 in
theorem tw_1038 : Cond.methodLink "StringShedModel" 111 yX8_refused ∈ sx_T := sx_tin 1038 rfl rfl
set_option maxRecDepth 100000 in
theorem tw_1040 : Cond.instanceMethod yX8_refused ∈ sx_T := sx_tin 1040 rfl rfl
set_option maxRecDepth 100000 in
theorem tw_1041 : Jvm.Cond.code ({ cls := "StringShedModel", name := "refused", desc := "(I)Z" } : Jvm.MethodName) prog_10_method_3_code (2 : Nat) (Option.some Jvm.ClassFile.FieldType.boolean) ∈ sx_T := sx_tin 1041 rfl rfl
set_option maxRecDepth 100000 in
theorem tw_1042 : Cond.methodLink "StringShedLaw" 104 yX8_clearText ∈ sx_T := sx_tin 1042 rfl rfl
set_option maxRecDepth 100000 in
theorem tw_1043 : Cond.instanceMethod yX8_clearText ∈ sx_T := sx_tin 1043 rfl rfl
set_option maxRecDepth 100000 in
theorem tw_1044 : Cond.selects RX8 yX8_clearText yX8_clearText ∈ sx_T := sx_tin 1044 rfl rfl
set_option maxRecDepth 100000 in
theorem tw_1045 : Jvm.Cond.code ({ cls := "StringShedModel", name := "clearText", desc := "()I" } : Jvm.MethodName) prog_10_method_30_code (2 : Nat) (Option.some Jvm.ClassFile.FieldType.int) ∈ sx_T := sx_tin 1045 rfl rfl
set_option maxRecDepth 100000 in
theorem tw_1046 : Cond.methodLink "StringShedLaw" 108 yX8_errorPosition ∈ sx_T := sx_tin 1046 rfl rfl
set_option maxRecDepth 100000 in
theorem tw_1047 : Cond.instanceMethod yX8_errorPosition ∈ sx_T := sx_tin 1047 rfl rfl
set_option maxRecDepth 100000 in
theorem tw_1048 : Cond.selects RX8 yX8_errorPosition yX8_errorPosition ∈ sx_T := sx_tin 1048 rfl rfl
set_option maxRecDepth 100000 in
theorem tw_1049 : Jvm.Cond.code ({ cls := "StringShedModel", name := "errorPosition", desc := "()I" } : Jvm.MethodName) prog_10_method_43_code (1 : Nat) (Option.some Jvm.ClassFile.FieldType.int) ∈ sx_T := sx_tin 1049 rfl rfl
set_option maxRecDepth 100000 in
theorem tw_1050 : Cond.methodLink "StringShedModel" 191 yX8_readText ∈ sx_T := sx_tin 1050 rfl rfl
set_option maxRecDepth 100000 in
theorem tw_1052 : Cond.instanceMethod yX8_readText ∈ sx_T := sx_tin 1052 rfl rfl
set_option maxRecDepth 100000 in
theorem tw_1053 : Jvm.Cond.code ({ cls := "StringShedModel", name := "readText", desc := "()I" } : Jvm.MethodName) prog_10_method_42_code (2 : Nat) (Option.some Jvm.ClassFile.FieldType.int) ∈ sx_T := sx_tin 1053 rfl rfl
set_option maxRecDepth 100000 in
theorem tw_1054 : Cond.methodLink "StringShedModel" 131 yX8_isNext ∈ sx_T := sx_tin 1054 rfl rfl
set_option maxRecDepth 100000 in
theorem tw_1056 : Cond.instanceMethod yX8_isNext ∈ sx_T := sx_tin 1056 rfl rfl
set_option maxRecDepth 100000 in
theorem tw_1057 : Jvm.Cond.code ({ cls := "StringShedModel", name := "isNext", desc := "(I)Z" } : Jvm.MethodName) prog_10_method_31_code (2 : Nat) (Option.some Jvm.ClassFile.FieldType.boolean) ∈ sx_T := sx_tin 1057 rfl rfl
set_option maxRecDepth 100000 in
theorem tw_1058 : Cond.methodLink "StringShedModel" 124 yX8_accept ∈ sx_T := sx_tin 1058 rfl rfl
set_option maxRecDepth 100000 in
theorem tw_1060 : Cond.instanceMethod yX8_accept ∈ sx_T := sx_tin 1060 rfl rfl
set_option maxRecDepth 100000 in
theorem tw_1061 : Jvm.Cond.code ({ cls := "StringShedModel", name := "accept", desc := "(Z)V" } : Jvm.MethodName) prog_10_method_32_code (2 : Nat) (Option.none : Option Jvm.ClassFile.FieldType) ∈ sx_T := sx_tin 1061 rfl rfl
set_option maxRecDepth 100000 in
theorem tw_1062 : Cond.methodLink "StringShedModel" 188 yX8_readCommand ∈ sx_T := sx_tin 1062 rfl rfl
set_option maxRecDepth 100000 in
theorem tw_1064 : Cond.instanceMethod yX8_readCommand ∈ sx_T := sx_tin 1064 rfl rfl
set_option maxRecDepth 100000 in
theorem tw_1065 : Jvm.Cond.code ({ cls := "StringShedModel", name := "readCommand", desc := "()V" } : Jvm.MethodName) prog_10_method_41_code (1 : Nat) (Option.none : Option Jvm.ClassFile.FieldType) ∈ sx_T := sx_tin 1065 rfl rfl
set_option maxRecDepth 100000 in
theorem tw_1066 : Cond.methodLink "StringShedModel" 175 yX8_readMake ∈ sx_T := sx_tin 1066 rfl rfl
set_option maxRecDepth 100000 in
theorem tw_1068 : Cond.instanceMethod yX8_readMake ∈ sx_T := sx_tin 1068 rfl rfl
set_option maxRecDepth 100000 in
theorem tw_1069 : Jvm.Cond.code ({ cls := "StringShedModel", name := "readMake", desc := "()V" } : Jvm.MethodName) prog_10_method_38_code (2 : Nat) (Option.none : Option Jvm.ClassFile.FieldType) ∈ sx_T := sx_tin 1069 rfl rfl
set_option maxRecDepth 100000 in
theorem tw_1070 : Cond.methodLink "StringShedModel" 128 yX8_digit ∈ sx_T := sx_tin 1070 rfl rfl
set_option maxRecDepth 100000 in
theorem tw_1072 : Cond.instanceMethod yX8_digit ∈ sx_T := sx_tin 1072 rfl rfl
set_option maxRecDepth 100000 in
theorem tw_1073 : Jvm.Cond.code ({ cls := "StringShedModel", name := "digit", desc := "(II)I" } : Jvm.MethodName) prog_10_method_33_code (4 : Nat) (Option.some Jvm.ClassFile.FieldType.int) ∈ sx_T := sx_tin 1073 rfl rfl
set_option maxRecDepth 100000 in
theorem tw_1074 : Jvm.Cond.constantLong "StringShedModel" (122 : Nat) (9 : Int64) ∈ sx_T := sx_tin 1074 rfl rfl
set_option maxRecDepth 100000 in
theorem tw_1075 : Cond.methodLink "StringShedModel" 151 yX8_count ∈ sx_T := sx_tin 1075 rfl rfl
set_option maxRecDepth 100000 in
theorem tw_1077 : Cond.instanceMethod yX8_count ∈ sx_T := sx_tin 1077 rfl rfl
set_option maxRecDepth 100000 in
theorem tw_1078 : Jvm.Cond.code ({ cls := "StringShedModel", name := "count", desc := "(Z)V" } : Jvm.MethodName) prog_10_method_36_code (2 : Nat) (Option.none : Option Jvm.ClassFile.FieldType) ∈ sx_T := sx_tin 1078 rfl rfl
set_option maxRecDepth 100000 in
theorem tw_1079 : Cond.methodLink "StringShedModel" 161 yX8_makeIn ∈ sx_T := sx_tin 1079 rfl rfl
set_option maxRecDepth 100000 in
theorem tw_1080 : Cond.static yX8_makeIn ∈ sx_T := sx_tin 1080 rfl rfl
set_option maxRecDepth 100000 in
theorem tw_1081 : Jvm.Cond.code ({ cls := "StringShedModel", name := "makeIn", desc := "([II)I" } : Jvm.MethodName) prog_10_method_23_code (3 : Nat) (Option.some Jvm.ClassFile.FieldType.int) ∈ sx_T := sx_tin 1081 rfl rfl
set_option maxRecDepth 100000 in
theorem tw_1082 : Cond.methodLink "StringShedModel" 66 yX8_partAt ∈ sx_T := sx_tin 1082 rfl rfl
set_option maxRecDepth 100000 in
theorem tw_1083 : Cond.static yX8_partAt ∈ sx_T := sx_tin 1083 rfl rfl
set_option maxRecDepth 100000 in
theorem tw_1084 : Jvm.Cond.code ({ cls := "StringShedModel", name := "partAt", desc := "(II)I" } : Jvm.MethodName) prog_10_method_9_code (2 : Nat) (Option.some Jvm.ClassFile.FieldType.int) ∈ sx_T := sx_tin 1084 rfl rfl
set_option maxRecDepth 100000 in
theorem tw_1085 : Cond.methodLink "StringShedModel" 178 yX8_readString ∈ sx_T := sx_tin 1085 rfl rfl
set_option maxRecDepth 100000 in
theorem tw_1087 : Cond.instanceMethod yX8_readString ∈ sx_T := sx_tin 1087 rfl rfl
set_option maxRecDepth 100000 in
theorem tw_1088 : Jvm.Cond.code ({ cls := "StringShedModel", name := "readString", desc := "(I)V" } : Jvm.MethodName) prog_10_method_37_code (7 : Nat) (Option.none : Option Jvm.ClassFile.FieldType) ∈ sx_T := sx_tin 1088 rfl rfl
set_option maxRecDepth 100000 in
theorem tw_1089 : Cond.methodLink "StringShedModel" 141 yX8_thingRead ∈ sx_T := sx_tin 1089 rfl rfl
set_option maxRecDepth 100000 in
theorem tw_1091 : Cond.instanceMethod yX8_thingRead ∈ sx_T := sx_tin 1091 rfl rfl
set_option maxRecDepth 100000 in
theorem tw_1092 : Jvm.Cond.code ({ cls := "StringShedModel", name := "thingRead", desc := "()I" } : Jvm.MethodName) prog_10_method_35_code (1 : Nat) (Option.some Jvm.ClassFile.FieldType.int) ∈ sx_T := sx_tin 1092 rfl rfl
set_option maxRecDepth 100000 in
theorem tw_1093 : Cond.methodLink "StringShedModel" 134 yX8_partRead ∈ sx_T := sx_tin 1093 rfl rfl
set_option maxRecDepth 100000 in
theorem tw_1095 : Cond.instanceMethod yX8_partRead ∈ sx_T := sx_tin 1095 rfl rfl
set_option maxRecDepth 100000 in
theorem tw_1096 : Jvm.Cond.code ({ cls := "StringShedModel", name := "partRead", desc := "()I" } : Jvm.MethodName) prog_10_method_34_code (2 : Nat) (Option.some Jvm.ClassFile.FieldType.int) ∈ sx_T := sx_tin 1096 rfl rfl
set_option maxRecDepth 100000 in
theorem tw_1097 : Cond.methodLink "StringShedModel" 144 yX8_isThing ∈ sx_T := sx_tin 1097 rfl rfl
set_option maxRecDepth 100000 in
theorem tw_1098 : Cond.static yX8_isThing ∈ sx_T := sx_tin 1098 rfl rfl
set_option maxRecDepth 100000 in
theorem tw_1099 : Jvm.Cond.code ({ cls := "StringShedModel", name := "isThing", desc := "([II)Z" } : Jvm.MethodName) prog_10_method_12_code (2 : Nat) (Option.some Jvm.ClassFile.FieldType.boolean) ∈ sx_T := sx_tin 1099 rfl rfl
set_option maxRecDepth 100000 in
theorem tw_1100 : Jvm.Cond.constantLong "StringShedModel" (70 : Nat) (-4 : Int64) ∈ sx_T := sx_tin 1100 rfl rfl
set_option maxRecDepth 100000 in
theorem tw_1101 : Jvm.Cond.constantLong "StringShedModel" (72 : Nat) (-1 : Int64) ∈ sx_T := sx_tin 1101 rfl rfl
set_option maxRecDepth 100000 in
theorem tw_1102 : Cond.methodLink "StringShedModel" 74 yX8_isPart ∈ sx_T := sx_tin 1102 rfl rfl
set_option maxRecDepth 100000 in
theorem tw_1103 : Cond.static yX8_isPart ∈ sx_T := sx_tin 1103 rfl rfl
set_option maxRecDepth 100000 in
theorem tw_1104 : Jvm.Cond.code ({ cls := "StringShedModel", name := "isPart", desc := "([II)Z" } : Jvm.MethodName) prog_10_method_11_code (2 : Nat) (Option.some Jvm.ClassFile.FieldType.boolean) ∈ sx_T := sx_tin 1104 rfl rfl
set_option maxRecDepth 100000 in
theorem tw_1105 : Jvm.Cond.constantLong "StringShedModel" (64 : Nat) (23 : Int64) ∈ sx_T := sx_tin 1105 rfl rfl
set_option maxRecDepth 100000 in
theorem tw_1106 : Cond.methodLink "StringShedModel" 99 yX8_find ∈ sx_T := sx_tin 1106 rfl rfl
set_option maxRecDepth 100000 in
theorem tw_1107 : Cond.static yX8_find ∈ sx_T := sx_tin 1107 rfl rfl
set_option maxRecDepth 100000 in
theorem tw_1108 : Jvm.Cond.code ({ cls := "StringShedModel", name := "find", desc := "([III)I" } : Jvm.MethodName) prog_10_method_13_code (5 : Nat) (Option.some Jvm.ClassFile.FieldType.int) ∈ sx_T := sx_tin 1108 rfl rfl
set_option maxRecDepth 100000 in
theorem tw_1109 : Cond.methodLink "StringShedModel" 78 yX8_cordAt ∈ sx_T := sx_tin 1109 rfl rfl
set_option maxRecDepth 100000 in
theorem tw_1110 : Cond.static yX8_cordAt ∈ sx_T := sx_tin 1110 rfl rfl
set_option maxRecDepth 100000 in
theorem tw_1111 : Jvm.Cond.code ({ cls := "StringShedModel", name := "cordAt", desc := "(II)I" } : Jvm.MethodName) prog_10_method_10_code (2 : Nat) (Option.some Jvm.ClassFile.FieldType.int) ∈ sx_T := sx_tin 1111 rfl rfl
set_option maxRecDepth 100000 in
theorem tw_1112 : Cond.methodLink "StringShedModel" 147 yX8_canTie ∈ sx_T := sx_tin 1112 rfl rfl
set_option maxRecDepth 100000 in
theorem tw_1113 : Cond.static yX8_canTie ∈ sx_T := sx_tin 1113 rfl rfl
set_option maxRecDepth 100000 in
theorem tw_1114 : Jvm.Cond.code ({ cls := "StringShedModel", name := "canTie", desc := "([III)Z" } : Jvm.MethodName) prog_10_method_24_code (3 : Nat) (Option.some Jvm.ClassFile.FieldType.boolean) ∈ sx_T := sx_tin 1114 rfl rfl
set_option maxRecDepth 100000 in
theorem tw_1115 : Cond.methodLink "StringShedModel" 154 yX8_tieIn ∈ sx_T := sx_tin 1115 rfl rfl
set_option maxRecDepth 100000 in
theorem tw_1116 : Cond.static yX8_tieIn ∈ sx_T := sx_tin 1116 rfl rfl
set_option maxRecDepth 100000 in
theorem tw_1117 : Jvm.Cond.code ({ cls := "StringShedModel", name := "tieIn", desc := "([IIII)V" } : Jvm.MethodName) prog_10_method_26_code (5 : Nat) (Option.none : Option Jvm.ClassFile.FieldType) ∈ sx_T := sx_tin 1117 rfl rfl
set_option maxRecDepth 100000 in
theorem tw_1118 : Cond.methodLink "StringShedModel" 103 yX8_colors ∈ sx_T := sx_tin 1118 rfl rfl
set_option maxRecDepth 100000 in
theorem tw_1119 : Cond.static yX8_colors ∈ sx_T := sx_tin 1119 rfl rfl
set_option maxRecDepth 100000 in
theorem tw_1120 : Jvm.Cond.code ({ cls := "StringShedModel", name := "colors", desc := "([II)Z" } : Jvm.MethodName) prog_10_method_25_code (2 : Nat) (Option.some Jvm.ClassFile.FieldType.boolean) ∈ sx_T := sx_tin 1120 rfl rfl
set_option maxRecDepth 100000 in
theorem tw_1121 : Cond.methodLink "StringShedModel" 85 yX8_redden ∈ sx_T := sx_tin 1121 rfl rfl
set_option maxRecDepth 100000 in
theorem tw_1122 : Cond.static yX8_redden ∈ sx_T := sx_tin 1122 rfl rfl
set_option maxRecDepth 100000 in
theorem tw_1123 : Jvm.Cond.code ({ cls := "StringShedModel", name := "redden", desc := "([II)V" } : Jvm.MethodName) prog_10_method_17_code (2 : Nat) (Option.none : Option Jvm.ClassFile.FieldType) ∈ sx_T := sx_tin 1123 rfl rfl
set_option maxRecDepth 100000 in
theorem tw_1124 : Cond.methodLink "StringShedModel" 89 yX8_removeString ∈ sx_T := sx_tin 1124 rfl rfl
set_option maxRecDepth 100000 in
theorem tw_1125 : Cond.static yX8_removeString ∈ sx_T := sx_tin 1125 rfl rfl
set_option maxRecDepth 100000 in
theorem tw_1126 : Jvm.Cond.code ({ cls := "StringShedModel", name := "removeString", desc := "([II)V" } : Jvm.MethodName) prog_10_method_19_code (2 : Nat) (Option.none : Option Jvm.ClassFile.FieldType) ∈ sx_T := sx_tin 1126 rfl rfl
set_option maxRecDepth 100000 in
theorem tw_1127 : Cond.methodLink "StringShedModel" 56 yX8_copy ∈ sx_T := sx_tin 1127 rfl rfl
set_option maxRecDepth 100000 in
theorem tw_1128 : Cond.static yX8_copy ∈ sx_T := sx_tin 1128 rfl rfl
set_option maxRecDepth 100000 in
theorem tw_1129 : Jvm.Cond.code ({ cls := "StringShedModel", name := "copy", desc := "([II[III)V" } : Jvm.MethodName) prog_10_method_5_code (6 : Nat) (Option.none : Option Jvm.ClassFile.FieldType) ∈ sx_T := sx_tin 1129 rfl rfl
set_option maxRecDepth 100000 in
theorem tw_1130 : Cond.methodLink "StringShedModel" 158 yX8_mendIn ∈ sx_T := sx_tin 1130 rfl rfl
set_option maxRecDepth 100000 in
theorem tw_1131 : Cond.static yX8_mendIn ∈ sx_T := sx_tin 1131 rfl rfl
set_option maxRecDepth 100000 in
theorem tw_1132 : Jvm.Cond.code ({ cls := "StringShedModel", name := "mendIn", desc := "([II)V" } : Jvm.MethodName) prog_10_method_27_code (2 : Nat) (Option.none : Option Jvm.ClassFile.FieldType) ∈ sx_T := sx_tin 1132 rfl rfl
set_option maxRecDepth 100000 in
theorem tw_1133 : Cond.methodLink "StringShedModel" 182 yX8_readPin ∈ sx_T := sx_tin 1133 rfl rfl
set_option maxRecDepth 100000 in
theorem tw_1135 : Cond.instanceMethod yX8_readPin ∈ sx_T := sx_tin 1135 rfl rfl
set_option maxRecDepth 100000 in
theorem tw_1136 : Jvm.Cond.code ({ cls := "StringShedModel", name := "readPin", desc := "()V" } : Jvm.MethodName) prog_10_method_39_code (2 : Nat) (Option.none : Option Jvm.ClassFile.FieldType) ∈ sx_T := sx_tin 1136 rfl rfl
set_option maxRecDepth 100000 in
theorem tw_1137 : Cond.methodLink "StringShedModel" 165 yX8_pinIn ∈ sx_T := sx_tin 1137 rfl rfl
set_option maxRecDepth 100000 in
theorem tw_1138 : Cond.static yX8_pinIn ∈ sx_T := sx_tin 1138 rfl rfl
set_option maxRecDepth 100000 in
theorem tw_1139 : Jvm.Cond.code ({ cls := "StringShedModel", name := "pinIn", desc := "([IIZ)V" } : Jvm.MethodName) prog_10_method_28_code (3 : Nat) (Option.none : Option Jvm.ClassFile.FieldType) ∈ sx_T := sx_tin 1139 rfl rfl
set_option maxRecDepth 100000 in
theorem tw_1140 : Cond.methodLink "StringShedModel" 185 yX8_readSweep ∈ sx_T := sx_tin 1140 rfl rfl
set_option maxRecDepth 100000 in
theorem tw_1142 : Cond.instanceMethod yX8_readSweep ∈ sx_T := sx_tin 1142 rfl rfl
set_option maxRecDepth 100000 in
theorem tw_1143 : Jvm.Cond.code ({ cls := "StringShedModel", name := "readSweep", desc := "(Z)V" } : Jvm.MethodName) prog_10_method_40_code (3 : Nat) (Option.none : Option Jvm.ClassFile.FieldType) ∈ sx_T := sx_tin 1143 rfl rfl
set_option maxRecDepth 100000 in
theorem tw_1144 : Cond.methodLink "StringShedModel" 169 yX8_beginIn ∈ sx_T := sx_tin 1144 rfl rfl
set_option maxRecDepth 100000 in
theorem tw_1145 : Cond.static yX8_beginIn ∈ sx_T := sx_tin 1145 rfl rfl
set_option maxRecDepth 100000 in
theorem tw_1146 : Jvm.Cond.code ({ cls := "StringShedModel", name := "beginIn", desc := "([I)I" } : Jvm.MethodName) prog_10_method_18_code (4 : Nat) (Option.some Jvm.ClassFile.FieldType.int) ∈ sx_T := sx_tin 1146 rfl rfl
set_option maxRecDepth 100000 in
theorem tw_1147 : Cond.methodLink "StringShedModel" 172 yX8_stepIn ∈ sx_T := sx_tin 1147 rfl rfl
set_option maxRecDepth 100000 in
theorem tw_1148 : Cond.static yX8_stepIn ∈ sx_T := sx_tin 1148 rfl rfl
set_option maxRecDepth 100000 in
theorem tw_1149 : Jvm.Cond.code ({ cls := "StringShedModel", name := "stepIn", desc := "([I)I" } : Jvm.MethodName) prog_10_method_22_code (3 : Nat) (Option.some Jvm.ClassFile.FieldType.int) ∈ sx_T := sx_tin 1149 rfl rfl
set_option maxRecDepth 100000 in
theorem tw_1150 : Cond.methodLink "StringShedModel" 95 yX8_endIn ∈ sx_T := sx_tin 1150 rfl rfl
set_option maxRecDepth 100000 in
theorem tw_1151 : Cond.static yX8_endIn ∈ sx_T := sx_tin 1151 rfl rfl
set_option maxRecDepth 100000 in
theorem tw_1152 : Jvm.Cond.code ({ cls := "StringShedModel", name := "endIn", desc := "([I)I" } : Jvm.MethodName) prog_10_method_21_code (3 : Nat) (Option.some Jvm.ClassFile.FieldType.int) ∈ sx_T := sx_tin 1152 rfl rfl
set_option maxRecDepth 100000 in
theorem tw_1153 : Cond.methodLink "StringShedModel" 92 yX8_sweepPart ∈ sx_T := sx_tin 1153 rfl rfl
set_option maxRecDepth 100000 in
theorem tw_1154 : Cond.static yX8_sweepPart ∈ sx_T := sx_tin 1154 rfl rfl
set_option maxRecDepth 100000 in
theorem tw_1155 : Jvm.Cond.code ({ cls := "StringShedModel", name := "sweepPart", desc := "([II)V" } : Jvm.MethodName) prog_10_method_20_code (3 : Nat) (Option.none : Option Jvm.ClassFile.FieldType) ∈ sx_T := sx_tin 1155 rfl rfl
set_option maxRecDepth 100000 in
theorem tw_1156 : Cond.methodLink "StringShedLaw" 112 yX8_load ∈ sx_T := sx_tin 1156 rfl rfl
set_option maxRecDepth 100000 in
theorem tw_1157 : Cond.instanceMethod yX8_load ∈ sx_T := sx_tin 1157 rfl rfl
set_option maxRecDepth 100000 in
theorem tw_1158 : Cond.selects RX8 yX8_load yX8_load ∈ sx_T := sx_tin 1158 rfl rfl
set_option maxRecDepth 100000 in
theorem tw_1159 : Jvm.Cond.code ({ cls := "StringShedModel", name := "load", desc := "()I" } : Jvm.MethodName) prog_10_method_44_code (1 : Nat) (Option.some Jvm.ClassFile.FieldType.int) ∈ sx_T := sx_tin 1159 rfl rfl
set_option maxRecDepth 100000 in
theorem tw_1160 : Cond.methodLink "StringShedLaw" 115 yX8_about ∈ sx_T := sx_tin 1160 rfl rfl
set_option maxRecDepth 100000 in
theorem tw_1161 : Cond.instanceMethod yX8_about ∈ sx_T := sx_tin 1161 rfl rfl
set_option maxRecDepth 100000 in
theorem tw_1162 : Cond.selects RX8 yX8_about yX8_about ∈ sx_T := sx_tin 1162 rfl rfl
set_option maxRecDepth 100000 in
theorem tw_1163 : Jvm.Cond.code ({ cls := "StringShedModel", name := "about", desc := "(I)I" } : Jvm.MethodName) prog_10_method_48_code (2 : Nat) (Option.some Jvm.ClassFile.FieldType.int) ∈ sx_T := sx_tin 1163 rfl rfl
set_option maxRecDepth 100000 in
theorem tw_1164 : Jvm.Cond.constantLong "StringShedModel" (194 : Nat) (11 : Int64) ∈ sx_T := sx_tin 1164 rfl rfl
set_option maxRecDepth 100000 in
theorem tw_1165 : Cond.methodLink "StringShedModel" 196 yX8_frayed ∈ sx_T := sx_tin 1165 rfl rfl
set_option maxRecDepth 100000 in
theorem tw_1167 : Cond.instanceMethod yX8_frayed ∈ sx_T := sx_tin 1167 rfl rfl
set_option maxRecDepth 100000 in
theorem tw_1168 : Jvm.Cond.code ({ cls := "StringShedModel", name := "frayed", desc := "()I" } : Jvm.MethodName) prog_10_method_45_code (3 : Nat) (Option.some Jvm.ClassFile.FieldType.int) ∈ sx_T := sx_tin 1168 rfl rfl
set_option maxRecDepth 100000 in
theorem tw_1169 : Cond.methodLink "StringShedModel" 199 yX8_pinned ∈ sx_T := sx_tin 1169 rfl rfl
set_option maxRecDepth 100000 in
theorem tw_1171 : Cond.instanceMethod yX8_pinned ∈ sx_T := sx_tin 1171 rfl rfl
set_option maxRecDepth 100000 in
theorem tw_1172 : Jvm.Cond.code ({ cls := "StringShedModel", name := "pinned", desc := "()I" } : Jvm.MethodName) prog_10_method_46_code (3 : Nat) (Option.some Jvm.ClassFile.FieldType.int) ∈ sx_T := sx_tin 1172 rfl rfl
set_option maxRecDepth 100000 in
theorem tw_1173 : Cond.methodLink "StringShedModel" 202 yX8_heldMany ∈ sx_T := sx_tin 1173 rfl rfl
set_option maxRecDepth 100000 in
theorem tw_1175 : Cond.instanceMethod yX8_heldMany ∈ sx_T := sx_tin 1175 rfl rfl
set_option maxRecDepth 100000 in
theorem tw_1176 : Jvm.Cond.code ({ cls := "StringShedModel", name := "heldMany", desc := "([I)I" } : Jvm.MethodName) prog_10_method_15_code (4 : Nat) (Option.some Jvm.ClassFile.FieldType.int) ∈ sx_T := sx_tin 1176 rfl rfl
set_option maxRecDepth 100000 in
theorem tw_1177 : Cond.methodLink "StringShedModel" 81 yX8_lay ∈ sx_T := sx_tin 1177 rfl rfl
set_option maxRecDepth 100000 in
theorem tw_1179 : Cond.instanceMethod yX8_lay ∈ sx_T := sx_tin 1179 rfl rfl
set_option maxRecDepth 100000 in
theorem tw_1180 : Jvm.Cond.code ({ cls := "StringShedModel", name := "lay", desc := "([I)V" } : Jvm.MethodName) prog_10_method_14_code (7 : Nat) (Option.none : Option Jvm.ClassFile.FieldType) ∈ sx_T := sx_tin 1180 rfl rfl
set_option maxRecDepth 100000 in
theorem tw_1181 : Cond.methodLink "StringShedModel" 205 yX8_heldWeight ∈ sx_T := sx_tin 1181 rfl rfl
set_option maxRecDepth 100000 in
theorem tw_1183 : Cond.instanceMethod yX8_heldWeight ∈ sx_T := sx_tin 1183 rfl rfl
set_option maxRecDepth 100000 in
theorem tw_1184 : Jvm.Cond.code ({ cls := "StringShedModel", name := "heldWeight", desc := "([I)I" } : Jvm.MethodName) prog_10_method_16_code (4 : Nat) (Option.some Jvm.ClassFile.FieldType.int) ∈ sx_T := sx_tin 1184 rfl rfl
set_option maxRecDepth 100000 in
theorem tw_1185 : Cond.methodLink "StringShedModel" 208 yX8_deepest ∈ sx_T := sx_tin 1185 rfl rfl
set_option maxRecDepth 100000 in
theorem tw_1187 : Cond.instanceMethod yX8_deepest ∈ sx_T := sx_tin 1187 rfl rfl
set_option maxRecDepth 100000 in
theorem tw_1188 : Jvm.Cond.code ({ cls := "StringShedModel", name := "deepest", desc := "()I" } : Jvm.MethodName) prog_10_method_47_code (3 : Nat) (Option.some Jvm.ClassFile.FieldType.int) ∈ sx_T := sx_tin 1188 rfl rfl
set_option maxRecDepth 100000 in
theorem tw_1189 : Cond.methodLink "StringShedLaw" 119 yX8_part ∈ sx_T := sx_tin 1189 rfl rfl
set_option maxRecDepth 100000 in
theorem tw_1190 : Cond.instanceMethod yX8_part ∈ sx_T := sx_tin 1190 rfl rfl
set_option maxRecDepth 100000 in
theorem tw_1191 : Cond.selects RX8 yX8_part yX8_part ∈ sx_T := sx_tin 1191 rfl rfl
set_option maxRecDepth 100000 in
theorem tw_1192 : Jvm.Cond.code ({ cls := "StringShedModel", name := "part", desc := "(II)I" } : Jvm.MethodName) prog_10_method_50_code (3 : Nat) (Option.some Jvm.ClassFile.FieldType.int) ∈ sx_T := sx_tin 1192 rfl rfl
set_option maxRecDepth 100000 in
theorem tw_1193 : Jvm.Cond.constantLong "StringShedModel" (211 : Nat) (6 : Int64) ∈ sx_T := sx_tin 1193 rfl rfl
set_option maxRecDepth 100000 in
theorem tw_1194 : Cond.methodLink "StringShedModel" 213 yX8_stringsOf ∈ sx_T := sx_tin 1194 rfl rfl
set_option maxRecDepth 100000 in
theorem tw_1196 : Cond.instanceMethod yX8_stringsOf ∈ sx_T := sx_tin 1196 rfl rfl
set_option maxRecDepth 100000 in
theorem tw_1197 : Jvm.Cond.code ({ cls := "StringShedModel", name := "stringsOf", desc := "(IIZ)I" } : Jvm.MethodName) prog_10_method_49_code (6 : Nat) (Option.some Jvm.ClassFile.FieldType.int) ∈ sx_T := sx_tin 1197 rfl rfl
set_option maxRecDepth 100000 in
theorem tw_1198 : Cond.methodLink "StringShedLaw" 122 yX8_string ∈ sx_T := sx_tin 1198 rfl rfl
set_option maxRecDepth 100000 in
theorem tw_1199 : Cond.instanceMethod yX8_string ∈ sx_T := sx_tin 1199 rfl rfl
set_option maxRecDepth 100000 in
theorem tw_1200 : Cond.selects RX8 yX8_string yX8_string ∈ sx_T := sx_tin 1200 rfl rfl
set_option maxRecDepth 100000 in
theorem tw_1201 : Jvm.Cond.code ({ cls := "StringShedModel", name := "string", desc := "(II)I" } : Jvm.MethodName) prog_10_method_51_code (4 : Nat) (Option.some Jvm.ClassFile.FieldType.int) ∈ sx_T := sx_tin 1201 rfl rfl
set_option maxRecDepth 100000 in
theorem tw_1202 : Cond.methodLink "StringShedLaw" 125 yX8_stringAt ∈ sx_T := sx_tin 1202 rfl rfl
set_option maxRecDepth 100000 in
theorem tw_1203 : Cond.instanceMethod yX8_stringAt ∈ sx_T := sx_tin 1203 rfl rfl
set_option maxRecDepth 100000 in
theorem tw_1204 : Cond.selects RX8 yX8_stringAt yX8_stringAt ∈ sx_T := sx_tin 1204 rfl rfl
set_option maxRecDepth 100000 in
theorem tw_1205 : Jvm.Cond.code ({ cls := "StringShedModel", name := "stringAt", desc := "(I)I" } : Jvm.MethodName) prog_10_method_53_code (2 : Nat) (Option.some Jvm.ClassFile.FieldType.int) ∈ sx_T := sx_tin 1205 rfl rfl
set_option maxRecDepth 100000 in
theorem tw_1206 : Cond.methodLink "StringShedModel" 217 yX8_tells ∈ sx_T := sx_tin 1206 rfl rfl
set_option maxRecDepth 100000 in
theorem tw_1208 : Cond.instanceMethod yX8_tells ∈ sx_T := sx_tin 1208 rfl rfl
set_option maxRecDepth 100000 in
theorem tw_1209 : Jvm.Cond.code ({ cls := "StringShedModel", name := "tells", desc := "(I)I" } : Jvm.MethodName) prog_10_method_52_code (2 : Nat) (Option.some Jvm.ClassFile.FieldType.int) ∈ sx_T := sx_tin 1209 rfl rfl
set_option maxRecDepth 100000 in
theorem tw_1210 : Cond.methodLink "StringShedLaw" 128 yX8_make ∈ sx_T := sx_tin 1210 rfl rfl
set_option maxRecDepth 100000 in
theorem tw_1211 : Cond.instanceMethod yX8_make ∈ sx_T := sx_tin 1211 rfl rfl
set_option maxRecDepth 100000 in
theorem tw_1212 : Cond.selects RX8 yX8_make yX8_make ∈ sx_T := sx_tin 1212 rfl rfl
set_option maxRecDepth 100000 in
theorem tw_1213 : Jvm.Cond.code ({ cls := "StringShedModel", name := "make", desc := "(I)I" } : Jvm.MethodName) prog_10_method_54_code (2 : Nat) (Option.some Jvm.ClassFile.FieldType.int) ∈ sx_T := sx_tin 1213 rfl rfl
set_option maxRecDepth 100000 in
theorem tw_1214 : Cond.methodLink "StringShedModel" 221 yX8_remember ∈ sx_T := sx_tin 1214 rfl rfl
set_option maxRecDepth 100000 in
theorem tw_1216 : Cond.instanceMethod yX8_remember ∈ sx_T := sx_tin 1216 rfl rfl
set_option maxRecDepth 100000 in
theorem tw_1217 : Jvm.Cond.code ({ cls := "StringShedModel", name := "remember", desc := "()V" } : Jvm.MethodName) prog_10_method_7_code (1 : Nat) (Option.none : Option Jvm.ClassFile.FieldType) ∈ sx_T := sx_tin 1217 rfl rfl
set_option maxRecDepth 100000 in
theorem tw_1218 : Cond.methodLink "StringShedLaw" 132 yX8_tie ∈ sx_T := sx_tin 1218 rfl rfl
set_option maxRecDepth 100000 in
theorem tw_1219 : Cond.instanceMethod yX8_tie ∈ sx_T := sx_tin 1219 rfl rfl
set_option maxRecDepth 100000 in
theorem tw_1220 : Cond.selects RX8 yX8_tie yX8_tie ∈ sx_T := sx_tin 1220 rfl rfl
set_option maxRecDepth 100000 in
theorem tw_1221 : Jvm.Cond.code ({ cls := "StringShedModel", name := "tie", desc := "(IIZ)I" } : Jvm.MethodName) prog_10_method_55_code (5 : Nat) (Option.some Jvm.ClassFile.FieldType.int) ∈ sx_T := sx_tin 1221 rfl rfl
set_option maxRecDepth 100000 in
theorem tw_1222 : Cond.methodLink "StringShedLaw" 135 yX8_cut ∈ sx_T := sx_tin 1222 rfl rfl
set_option maxRecDepth 100000 in
theorem tw_1223 : Cond.instanceMethod yX8_cut ∈ sx_T := sx_tin 1223 rfl rfl
set_option maxRecDepth 100000 in
theorem tw_1224 : Cond.selects RX8 yX8_cut yX8_cut ∈ sx_T := sx_tin 1224 rfl rfl
set_option maxRecDepth 100000 in
theorem tw_1225 : Jvm.Cond.code ({ cls := "StringShedModel", name := "cut", desc := "(II)I" } : Jvm.MethodName) prog_10_method_57_code (5 : Nat) (Option.some Jvm.ClassFile.FieldType.int) ∈ sx_T := sx_tin 1225 rfl rfl
set_option maxRecDepth 100000 in
theorem tw_1226 : Cond.methodLink "StringShedModel" 224 yX8_foundString ∈ sx_T := sx_tin 1226 rfl rfl
set_option maxRecDepth 100000 in
theorem tw_1228 : Cond.instanceMethod yX8_foundString ∈ sx_T := sx_tin 1228 rfl rfl
set_option maxRecDepth 100000 in
theorem tw_1229 : Jvm.Cond.code ({ cls := "StringShedModel", name := "foundString", desc := "(II)I" } : Jvm.MethodName) prog_10_method_56_code (3 : Nat) (Option.some Jvm.ClassFile.FieldType.int) ∈ sx_T := sx_tin 1229 rfl rfl
set_option maxRecDepth 100000 in
theorem tw_1230 : Cond.methodLink "StringShedLaw" 138 yX8_fray ∈ sx_T := sx_tin 1230 rfl rfl
set_option maxRecDepth 100000 in
theorem tw_1231 : Cond.instanceMethod yX8_fray ∈ sx_T := sx_tin 1231 rfl rfl
set_option maxRecDepth 100000 in
theorem tw_1232 : Cond.selects RX8 yX8_fray yX8_fray ∈ sx_T := sx_tin 1232 rfl rfl
set_option maxRecDepth 100000 in
theorem tw_1233 : Jvm.Cond.code ({ cls := "StringShedModel", name := "fray", desc := "(II)I" } : Jvm.MethodName) prog_10_method_58_code (5 : Nat) (Option.some Jvm.ClassFile.FieldType.int) ∈ sx_T := sx_tin 1233 rfl rfl
set_option maxRecDepth 100000 in
theorem tw_1234 : Cond.methodLink "StringShedLaw" 141 yX8_mend ∈ sx_T := sx_tin 1234 rfl rfl
set_option maxRecDepth 100000 in
theorem tw_1235 : Cond.instanceMethod yX8_mend ∈ sx_T := sx_tin 1235 rfl rfl
set_option maxRecDepth 100000 in
theorem tw_1236 : Cond.selects RX8 yX8_mend yX8_mend ∈ sx_T := sx_tin 1236 rfl rfl
set_option maxRecDepth 100000 in
theorem tw_1237 : Jvm.Cond.code ({ cls := "StringShedModel", name := "mend", desc := "(II)I" } : Jvm.MethodName) prog_10_method_59_code (5 : Nat) (Option.some Jvm.ClassFile.FieldType.int) ∈ sx_T := sx_tin 1237 rfl rfl
set_option maxRecDepth 100000 in
theorem tw_1238 : Cond.methodLink "StringShedLaw" 145 yX8_pin ∈ sx_T := sx_tin 1238 rfl rfl
set_option maxRecDepth 100000 in
theorem tw_1239 : Cond.instanceMethod yX8_pin ∈ sx_T := sx_tin 1239 rfl rfl
set_option maxRecDepth 100000 in
theorem tw_1240 : Cond.selects RX8 yX8_pin yX8_pin ∈ sx_T := sx_tin 1240 rfl rfl
set_option maxRecDepth 100000 in
theorem tw_1241 : Jvm.Cond.code ({ cls := "StringShedModel", name := "pin", desc := "(IZ)I" } : Jvm.MethodName) prog_10_method_60_code (3 : Nat) (Option.some Jvm.ClassFile.FieldType.int) ∈ sx_T := sx_tin 1241 rfl rfl
set_option maxRecDepth 100000 in
theorem tw_1242 : Cond.methodLink "StringShedLaw" 148 yX8_begin ∈ sx_T := sx_tin 1242 rfl rfl
set_option maxRecDepth 100000 in
theorem tw_1243 : Cond.instanceMethod yX8_begin ∈ sx_T := sx_tin 1243 rfl rfl
set_option maxRecDepth 100000 in
theorem tw_1244 : Cond.selects RX8 yX8_begin yX8_begin ∈ sx_T := sx_tin 1244 rfl rfl
set_option maxRecDepth 100000 in
theorem tw_1245 : Jvm.Cond.code ({ cls := "StringShedModel", name := "begin", desc := "()I" } : Jvm.MethodName) prog_10_method_61_code (1 : Nat) (Option.some Jvm.ClassFile.FieldType.int) ∈ sx_T := sx_tin 1245 rfl rfl
set_option maxRecDepth 100000 in
theorem tw_1246 : Cond.methodLink "StringShedLaw" 151 yX8_step ∈ sx_T := sx_tin 1246 rfl rfl
set_option maxRecDepth 100000 in
theorem tw_1247 : Cond.instanceMethod yX8_step ∈ sx_T := sx_tin 1247 rfl rfl
set_option maxRecDepth 100000 in
theorem tw_1248 : Cond.selects RX8 yX8_step yX8_step ∈ sx_T := sx_tin 1248 rfl rfl
set_option maxRecDepth 100000 in
theorem tw_1249 : Jvm.Cond.code ({ cls := "StringShedModel", name := "step", desc := "()I" } : Jvm.MethodName) prog_10_method_62_code (1 : Nat) (Option.some Jvm.ClassFile.FieldType.int) ∈ sx_T := sx_tin 1249 rfl rfl
set_option maxRecDepth 100000 in
theorem tw_1250 : Cond.methodLink "StringShedLaw" 154 yX8_undo ∈ sx_T := sx_tin 1250 rfl rfl
set_option maxRecDepth 100000 in
theorem tw_1251 : Cond.instanceMethod yX8_undo ∈ sx_T := sx_tin 1251 rfl rfl
set_option maxRecDepth 100000 in
theorem tw_1252 : Cond.selects RX8 yX8_undo yX8_undo ∈ sx_T := sx_tin 1252 rfl rfl
set_option maxRecDepth 100000 in
theorem tw_1253 : Jvm.Cond.code ({ cls := "StringShedModel", name := "undo", desc := "()I" } : Jvm.MethodName) prog_10_method_63_code (1 : Nat) (Option.some Jvm.ClassFile.FieldType.int) ∈ sx_T := sx_tin 1253 rfl rfl
set_option maxRecDepth 100000 in
theorem tw_1254 : Cond.methodLink "StringShedLaw" 157 yX8_falls ∈ sx_T := sx_tin 1254 rfl rfl
set_option maxRecDepth 100000 in
theorem tw_1255 : Cond.instanceMethod yX8_falls ∈ sx_T := sx_tin 1255 rfl rfl
set_option maxRecDepth 100000 in
theorem tw_1256 : Cond.selects RX8 yX8_falls yX8_falls ∈ sx_T := sx_tin 1256 rfl rfl
set_option maxRecDepth 100000 in
theorem tw_1257 : Jvm.Cond.code ({ cls := "StringShedModel", name := "falls", desc := "(II)I" } : Jvm.MethodName) prog_10_method_65_code (4 : Nat) (Option.some Jvm.ClassFile.FieldType.int) ∈ sx_T := sx_tin 1257 rfl rfl
set_option maxRecDepth 100000 in
theorem tw_1258 : Cond.methodLink "StringShedModel" 230 yX8_fallsBy ∈ sx_T := sx_tin 1258 rfl rfl
set_option maxRecDepth 100000 in
theorem tw_1260 : Cond.instanceMethod yX8_fallsBy ∈ sx_T := sx_tin 1260 rfl rfl
set_option maxRecDepth 100000 in
theorem tw_1261 : Jvm.Cond.code ({ cls := "StringShedModel", name := "fallsBy", desc := "(I)I" } : Jvm.MethodName) prog_10_method_64_code (3 : Nat) (Option.some Jvm.ClassFile.FieldType.int) ∈ sx_T := sx_tin 1261 rfl rfl
set_option maxRecDepth 100000 in
theorem tw_1262 : Cond.methodLink "StringShedModel" 227 yX8_tryIt ∈ sx_T := sx_tin 1262 rfl rfl
set_option maxRecDepth 100000 in
theorem tw_1264 : Cond.instanceMethod yX8_tryIt ∈ sx_T := sx_tin 1264 rfl rfl
set_option maxRecDepth 100000 in
theorem tw_1265 : Jvm.Cond.code ({ cls := "StringShedModel", name := "tryIt", desc := "()V" } : Jvm.MethodName) prog_10_method_8_code (1 : Nat) (Option.none : Option Jvm.ClassFile.FieldType) ∈ sx_T := sx_tin 1265 rfl rfl
set_option maxRecDepth 100000 in
theorem tw_1266 : Cond.methodLink "StringShedLaw" 160 yX8_cuts ∈ sx_T := sx_tin 1266 rfl rfl
set_option maxRecDepth 100000 in
theorem tw_1267 : Cond.instanceMethod yX8_cuts ∈ sx_T := sx_tin 1267 rfl rfl
set_option maxRecDepth 100000 in
theorem tw_1268 : Cond.selects RX8 yX8_cuts yX8_cuts ∈ sx_T := sx_tin 1268 rfl rfl
set_option maxRecDepth 100000 in
theorem tw_1269 : Jvm.Cond.code ({ cls := "StringShedModel", name := "cuts", desc := "(I)I" } : Jvm.MethodName) prog_10_method_67_code (3 : Nat) (Option.some Jvm.ClassFile.FieldType.int) ∈ sx_T := sx_tin 1269 rfl rfl
set_option maxRecDepth 100000 in
theorem tw_1270 : Cond.methodLink "StringShedModel" 233 yX8_widen ∈ sx_T := sx_tin 1270 rfl rfl
set_option maxRecDepth 100000 in
theorem tw_1272 : Cond.instanceMethod yX8_widen ∈ sx_T := sx_tin 1272 rfl rfl
set_option maxRecDepth 100000 in
theorem tw_1273 : Jvm.Cond.code ({ cls := "StringShedModel", name := "widen", desc := "(I)Z" } : Jvm.MethodName) prog_10_method_66_code (8 : Nat) (Option.some Jvm.ClassFile.FieldType.boolean) ∈ sx_T := sx_tin 1273 rfl rfl
set_option maxRecDepth 100000 in
theorem tw_1274 : Cond.methodLink "StringShedLaw" 164 yX8_heaviest ∈ sx_T := sx_tin 1274 rfl rfl
set_option maxRecDepth 100000 in
theorem tw_1275 : Cond.instanceMethod yX8_heaviest ∈ sx_T := sx_tin 1275 rfl rfl
set_option maxRecDepth 100000 in
theorem tw_1276 : Cond.selects RX8 yX8_heaviest yX8_heaviest ∈ sx_T := sx_tin 1276 rfl rfl
set_option maxRecDepth 100000 in
theorem tw_1277 : Jvm.Cond.code ({ cls := "StringShedModel", name := "heaviest", desc := "()I" } : Jvm.MethodName) prog_10_method_68_code (5 : Nat) (Option.some Jvm.ClassFile.FieldType.int) ∈ sx_T := sx_tin 1277 rfl rfl
set_option maxRecDepth 100000 in
theorem tw_1278 : Cond.methodLink "StringShedLaw" 168 yX8_rings ∈ sx_T := sx_tin 1278 rfl rfl
set_option maxRecDepth 100000 in
theorem tw_1279 : Cond.instanceMethod yX8_rings ∈ sx_T := sx_tin 1279 rfl rfl
set_option maxRecDepth 100000 in
theorem tw_1280 : Cond.selects RX8 yX8_rings yX8_rings ∈ sx_T := sx_tin 1280 rfl rfl
set_option maxRecDepth 100000 in
theorem tw_1281 : Jvm.Cond.code ({ cls := "StringShedModel", name := "rings", desc := "()I" } : Jvm.MethodName) prog_10_method_70_code (3 : Nat) (Option.some Jvm.ClassFile.FieldType.int) ∈ sx_T := sx_tin 1281 rfl rfl
set_option maxRecDepth 100000 in
theorem tw_1282 : Cond.methodLink "StringShedModel" 236 yX8_isOnRing ∈ sx_T := sx_tin 1282 rfl rfl
set_option maxRecDepth 100000 in
theorem tw_1284 : Cond.instanceMethod yX8_isOnRing ∈ sx_T := sx_tin 1284 rfl rfl
set_option maxRecDepth 100000 in
theorem tw_1285 : Jvm.Cond.code ({ cls := "StringShedModel", name := "isOnRing", desc := "(I)Z" } : Jvm.MethodName) prog_10_method_69_code (8 : Nat) (Option.some Jvm.ClassFile.FieldType.boolean) ∈ sx_T := sx_tin 1285 rfl rfl
set_option maxRecDepth 100000 in
theorem tw_1286 : Cond.methodLink "StringShedLaw" 172 yX8_takes ∈ sx_T := sx_tin 1286 rfl rfl
set_option maxRecDepth 100000 in
theorem tw_1287 : Cond.instanceMethod yX8_takes ∈ sx_T := sx_tin 1287 rfl rfl
set_option maxRecDepth 100000 in
theorem tw_1288 : Cond.selects RX8 yX8_takes yX8_takes ∈ sx_T := sx_tin 1288 rfl rfl
set_option maxRecDepth 100000 in
theorem tw_1289 : Jvm.Cond.code ({ cls := "StringShedModel", name := "takes", desc := "()I" } : Jvm.MethodName) prog_10_method_72_code (1 : Nat) (Option.some Jvm.ClassFile.FieldType.int) ∈ sx_T := sx_tin 1289 rfl rfl
set_option maxRecDepth 100000 in
theorem tw_1290 : Cond.methodLink "StringShedModel" 239 yX8_endTrial ∈ sx_T := sx_tin 1290 rfl rfl
set_option maxRecDepth 100000 in
theorem tw_1292 : Cond.instanceMethod yX8_endTrial ∈ sx_T := sx_tin 1292 rfl rfl
set_option maxRecDepth 100000 in
theorem tw_1293 : Jvm.Cond.code ({ cls := "StringShedModel", name := "endTrial", desc := "()I" } : Jvm.MethodName) prog_10_method_71_code (2 : Nat) (Option.some Jvm.ClassFile.FieldType.int) ∈ sx_T := sx_tin 1293 rfl rfl
set_option maxRecDepth 100000 in
theorem tw_1294 : Cond.methodLink "StringShedLaw" 176 yX8_spares ∈ sx_T := sx_tin 1294 rfl rfl
set_option maxRecDepth 100000 in
theorem tw_1295 : Cond.instanceMethod yX8_spares ∈ sx_T := sx_tin 1295 rfl rfl
set_option maxRecDepth 100000 in
theorem tw_1296 : Cond.selects RX8 yX8_spares yX8_spares ∈ sx_T := sx_tin 1296 rfl rfl
set_option maxRecDepth 100000 in
theorem tw_1297 : Jvm.Cond.code ({ cls := "StringShedModel", name := "spares", desc := "()I" } : Jvm.MethodName) prog_10_method_73_code (3 : Nat) (Option.some Jvm.ClassFile.FieldType.int) ∈ sx_T := sx_tin 1297 rfl rfl
set_option maxRecDepth 100000 in
theorem tw_1298 : Cond.methodLink "StringShedLaw" 179 yX8_way ∈ sx_T := sx_tin 1298 rfl rfl
set_option maxRecDepth 100000 in
theorem tw_1299 : Cond.instanceMethod yX8_way ∈ sx_T := sx_tin 1299 rfl rfl
set_option maxRecDepth 100000 in
theorem tw_1300 : Cond.selects RX8 yX8_way yX8_way ∈ sx_T := sx_tin 1300 rfl rfl
set_option maxRecDepth 100000 in
theorem tw_1301 : Jvm.Cond.code ({ cls := "StringShedModel", name := "way", desc := "(II)I" } : Jvm.MethodName) prog_10_method_75_code (5 : Nat) (Option.some Jvm.ClassFile.FieldType.int) ∈ sx_T := sx_tin 1301 rfl rfl
set_option maxRecDepth 100000 in
theorem tw_1302 : Cond.methodLink "StringShedModel" 242 yX8_aboveOf ∈ sx_T := sx_tin 1302 rfl rfl
set_option maxRecDepth 100000 in
theorem tw_1304 : Cond.instanceMethod yX8_aboveOf ∈ sx_T := sx_tin 1304 rfl rfl
set_option maxRecDepth 100000 in
theorem tw_1305 : Jvm.Cond.code ({ cls := "StringShedModel", name := "aboveOf", desc := "(I)I" } : Jvm.MethodName) prog_10_method_74_code (4 : Nat) (Option.some Jvm.ClassFile.FieldType.int) ∈ sx_T := sx_tin 1305 rfl rfl
set_option maxRecDepth 100000 in
theorem tw_1306 : Cond.methodLink "StringShedLaw" 185 yX8_runScript ∈ sx_T := sx_tin 1306 rfl rfl
set_option maxRecDepth 100000 in
theorem tw_1307 : Cond.instanceMethod yX8_runScript ∈ sx_T := sx_tin 1307 rfl rfl
set_option maxRecDepth 100000 in
theorem tw_1308 : Cond.selects RX8 yX8_runScript yX8_runScript ∈ sx_T := sx_tin 1308 rfl rfl
set_option maxRecDepth 100000 in
theorem tw_1309 : Jvm.Cond.code ({ cls := "StringShedModel", name := "runScript", desc := "(IJ)I" } : Jvm.MethodName) prog_10_method_86_code (6 : Nat) (Option.some Jvm.ClassFile.FieldType.int) ∈ sx_T := sx_tin 1309 rfl rfl
set_option maxRecDepth 100000 in
theorem tw_1310 : Jvm.Cond.constantLong "StringShedModel" (278 : Nat) (3 : Int64) ∈ sx_T := sx_tin 1310 rfl rfl
set_option maxRecDepth 100000 in
theorem tw_1311 : Cond.methodLink "StringShedModel" 280 yX8_tenTo ∈ sx_T := sx_tin 1311 rfl rfl
set_option maxRecDepth 100000 in
theorem tw_1312 : Cond.static yX8_tenTo ∈ sx_T := sx_tin 1312 rfl rfl
set_option maxRecDepth 100000 in
theorem tw_1313 : Jvm.Cond.code ({ cls := "StringShedModel", name := "tenTo", desc := "(I)J" } : Jvm.MethodName) prog_10_method_6_code (4 : Nat) (Option.some Jvm.ClassFile.FieldType.long) ∈ sx_T := sx_tin 1313 rfl rfl
set_option maxRecDepth 100000 in
theorem tw_1314 : Jvm.Cond.constantLong "StringShedModel" (51 : Nat) (10 : Int64) ∈ sx_T := sx_tin 1314 rfl rfl
set_option maxRecDepth 100000 in
theorem tw_1315 : Jvm.Cond.constantLong "StringShedModel" (284 : Nat) (100000 : Int64) ∈ sx_T := sx_tin 1315 rfl rfl
set_option maxRecDepth 100000 in
theorem tw_1316 : Cond.methodLink "StringShedModel" 286 yX8_does ∈ sx_T := sx_tin 1316 rfl rfl
set_option maxRecDepth 100000 in
theorem tw_1318 : Cond.instanceMethod yX8_does ∈ sx_T := sx_tin 1318 rfl rfl
set_option maxRecDepth 100000 in
theorem tw_1319 : Jvm.Cond.code ({ cls := "StringShedModel", name := "does", desc := "(I)Z" } : Jvm.MethodName) prog_10_method_85_code (5 : Nat) (Option.some Jvm.ClassFile.FieldType.boolean) ∈ sx_T := sx_tin 1319 rfl rfl
set_option maxRecDepth 100000 in
theorem tw_1320 : Cond.methodLink "StringShedModel" 252 yX8_makes ∈ sx_T := sx_tin 1320 rfl rfl
set_option maxRecDepth 100000 in
theorem tw_1322 : Cond.instanceMethod yX8_makes ∈ sx_T := sx_tin 1322 rfl rfl
set_option maxRecDepth 100000 in
theorem tw_1323 : Jvm.Cond.code ({ cls := "StringShedModel", name := "makes", desc := "(I)Z" } : Jvm.MethodName) prog_10_method_81_code (2 : Nat) (Option.some Jvm.ClassFile.FieldType.boolean) ∈ sx_T := sx_tin 1323 rfl rfl
set_option maxRecDepth 100000 in
theorem tw_1324 : Cond.methodLink "StringShedModel" 255 yX8_thingOf ∈ sx_T := sx_tin 1324 rfl rfl
set_option maxRecDepth 100000 in
theorem tw_1325 : Cond.static yX8_thingOf ∈ sx_T := sx_tin 1325 rfl rfl
set_option maxRecDepth 100000 in
theorem tw_1326 : Jvm.Cond.code ({ cls := "StringShedModel", name := "thingOf", desc := "(I)I" } : Jvm.MethodName) prog_10_method_76_code (1 : Nat) (Option.some Jvm.ClassFile.FieldType.int) ∈ sx_T := sx_tin 1326 rfl rfl
set_option maxRecDepth 100000 in
theorem tw_1327 : Jvm.Cond.constantLong "StringShedModel" (245 : Nat) (90 : Int64) ∈ sx_T := sx_tin 1327 rfl rfl
set_option maxRecDepth 100000 in
theorem tw_1328 : Jvm.Cond.constantLong "StringShedModel" (247 : Nat) (93 : Int64) ∈ sx_T := sx_tin 1328 rfl rfl
set_option maxRecDepth 100000 in
theorem tw_1329 : Cond.methodLink "StringShedModel" 258 yX8_ties ∈ sx_T := sx_tin 1329 rfl rfl
set_option maxRecDepth 100000 in
theorem tw_1331 : Cond.instanceMethod yX8_ties ∈ sx_T := sx_tin 1331 rfl rfl
set_option maxRecDepth 100000 in
theorem tw_1332 : Jvm.Cond.code ({ cls := "StringShedModel", name := "ties", desc := "(II)Z" } : Jvm.MethodName) prog_10_method_77_code (3 : Nat) (Option.some Jvm.ClassFile.FieldType.boolean) ∈ sx_T := sx_tin 1332 rfl rfl
set_option maxRecDepth 100000 in
theorem tw_1333 : Cond.methodLink "StringShedModel" 262 yX8_cutsString ∈ sx_T := sx_tin 1333 rfl rfl
set_option maxRecDepth 100000 in
theorem tw_1335 : Cond.instanceMethod yX8_cutsString ∈ sx_T := sx_tin 1335 rfl rfl
set_option maxRecDepth 100000 in
theorem tw_1336 : Jvm.Cond.code ({ cls := "StringShedModel", name := "cutsString", desc := "(II)Z" } : Jvm.MethodName) prog_10_method_79_code (4 : Nat) (Option.some Jvm.ClassFile.FieldType.boolean) ∈ sx_T := sx_tin 1336 rfl rfl
set_option maxRecDepth 100000 in
theorem tw_1337 : Cond.methodLink "StringShedModel" 249 yX8_stringOf ∈ sx_T := sx_tin 1337 rfl rfl
set_option maxRecDepth 100000 in
theorem tw_1339 : Cond.instanceMethod yX8_stringOf ∈ sx_T := sx_tin 1339 rfl rfl
set_option maxRecDepth 100000 in
theorem tw_1340 : Jvm.Cond.code ({ cls := "StringShedModel", name := "stringOf", desc := "(II)I" } : Jvm.MethodName) prog_10_method_78_code (3 : Nat) (Option.some Jvm.ClassFile.FieldType.int) ∈ sx_T := sx_tin 1340 rfl rfl
set_option maxRecDepth 100000 in
theorem tw_1341 : Cond.methodLink "StringShedModel" 265 yX8_pins ∈ sx_T := sx_tin 1341 rfl rfl
set_option maxRecDepth 100000 in
theorem tw_1343 : Cond.instanceMethod yX8_pins ∈ sx_T := sx_tin 1343 rfl rfl
set_option maxRecDepth 100000 in
theorem tw_1344 : Jvm.Cond.code ({ cls := "StringShedModel", name := "pins", desc := "(II)Z" } : Jvm.MethodName) prog_10_method_80_code (3 : Nat) (Option.some Jvm.ClassFile.FieldType.boolean) ∈ sx_T := sx_tin 1344 rfl rfl
set_option maxRecDepth 100000 in
theorem tw_1345 : Cond.methodLink "StringShedModel" 268 yX8_begins ∈ sx_T := sx_tin 1345 rfl rfl
set_option maxRecDepth 100000 in
theorem tw_1347 : Cond.instanceMethod yX8_begins ∈ sx_T := sx_tin 1347 rfl rfl
set_option maxRecDepth 100000 in
theorem tw_1348 : Jvm.Cond.code ({ cls := "StringShedModel", name := "begins", desc := "()Z" } : Jvm.MethodName) prog_10_method_82_code (1 : Nat) (Option.some Jvm.ClassFile.FieldType.boolean) ∈ sx_T := sx_tin 1348 rfl rfl
set_option maxRecDepth 100000 in
theorem tw_1349 : Cond.methodLink "StringShedModel" 272 yX8_steps ∈ sx_T := sx_tin 1349 rfl rfl
set_option maxRecDepth 100000 in
theorem tw_1351 : Cond.instanceMethod yX8_steps ∈ sx_T := sx_tin 1351 rfl rfl
set_option maxRecDepth 100000 in
theorem tw_1352 : Jvm.Cond.code ({ cls := "StringShedModel", name := "steps", desc := "(I)Z" } : Jvm.MethodName) prog_10_method_83_code (3 : Nat) (Option.some Jvm.ClassFile.FieldType.boolean) ∈ sx_T := sx_tin 1352 rfl rfl
set_option maxRecDepth 100000 in
theorem tw_1353 : Cond.methodLink "StringShedModel" 275 yX8_isHeld ∈ sx_T := sx_tin 1353 rfl rfl
set_option maxRecDepth 100000 in
theorem tw_1355 : Cond.instanceMethod yX8_isHeld ∈ sx_T := sx_tin 1355 rfl rfl
set_option maxRecDepth 100000 in
theorem tw_1356 : Jvm.Cond.code ({ cls := "StringShedModel", name := "isHeld", desc := "(I)Z" } : Jvm.MethodName) prog_10_method_84_code (2 : Nat) (Option.some Jvm.ClassFile.FieldType.boolean) ∈ sx_T := sx_tin 1356 rfl rfl
set_option maxRecDepth 100000 in
theorem tw_1357 : Cond.methodLink "StringShedLaw" 189 yX8_simulate ∈ sx_T := sx_tin 1357 rfl rfl
set_option maxRecDepth 100000 in
theorem tw_1358 : Cond.instanceMethod yX8_simulate ∈ sx_T := sx_tin 1358 rfl rfl
set_option maxRecDepth 100000 in
theorem tw_1359 : Cond.selects RX8 yX8_simulate yX8_simulate ∈ sx_T := sx_tin 1359 rfl rfl
set_option maxRecDepth 100000 in
theorem tw_1360 : Jvm.Cond.code ({ cls := "StringShedModel", name := "simulate", desc := "(JI)I" } : Jvm.MethodName) prog_10_method_88_code (7 : Nat) (Option.some Jvm.ClassFile.FieldType.int) ∈ sx_T := sx_tin 1360 rfl rfl
set_option maxRecDepth 100000 in
theorem tw_1361 : Jvm.Cond.constantLong "StringShedModel" (289 : Nat) (200 : Int64) ∈ sx_T := sx_tin 1361 rfl rfl
set_option maxRecDepth 100000 in
theorem tw_1362 : Jvm.Cond.constantLong "StringShedModel" (291 : Nat) (6364136223846793005 : Int64) ∈ sx_T := sx_tin 1362 rfl rfl
set_option maxRecDepth 100000 in
theorem tw_1363 : Jvm.Cond.constantLong "StringShedModel" (293 : Nat) (1442695040888963407 : Int64) ∈ sx_T := sx_tin 1363 rfl rfl
set_option maxRecDepth 100000 in
theorem tw_1364 : Cond.methodLink "StringShedModel" 295 yX8_stir ∈ sx_T := sx_tin 1364 rfl rfl
set_option maxRecDepth 100000 in
theorem tw_1366 : Cond.instanceMethod yX8_stir ∈ sx_T := sx_tin 1366 rfl rfl
set_option maxRecDepth 100000 in
theorem tw_1367 : Jvm.Cond.code ({ cls := "StringShedModel", name := "stir", desc := "(I)V" } : Jvm.MethodName) prog_10_method_87_code (5 : Nat) (Option.none : Option Jvm.ClassFile.FieldType) ∈ sx_T := sx_tin 1367 rfl rfl
set_option maxRecDepth 100000 in
theorem tw_1368 : Cond.methodLink "StringShedLaw" 192 yX8_save ∈ sx_T := sx_tin 1368 rfl rfl
set_option maxRecDepth 100000 in
theorem tw_1369 : Cond.instanceMethod yX8_save ∈ sx_T := sx_tin 1369 rfl rfl
set_option maxRecDepth 100000 in
theorem tw_1370 : Cond.selects RX8 yX8_save yX8_save ∈ sx_T := sx_tin 1370 rfl rfl
set_option maxRecDepth 100000 in
theorem tw_1371 : Jvm.Cond.code ({ cls := "StringShedModel", name := "save", desc := "(I)I" } : Jvm.MethodName) prog_10_method_89_code (2 : Nat) (Option.some Jvm.ClassFile.FieldType.int) ∈ sx_T := sx_tin 1371 rfl rfl
set_option maxRecDepth 100000 in
theorem tw_1372 : Cond.methodLink "StringShedLaw" 195 yX8_restore ∈ sx_T := sx_tin 1372 rfl rfl
set_option maxRecDepth 100000 in
theorem tw_1373 : Cond.instanceMethod yX8_restore ∈ sx_T := sx_tin 1373 rfl rfl
set_option maxRecDepth 100000 in
theorem tw_1374 : Cond.selects RX8 yX8_restore yX8_restore ∈ sx_T := sx_tin 1374 rfl rfl
set_option maxRecDepth 100000 in
theorem tw_1375 : Jvm.Cond.code ({ cls := "StringShedModel", name := "restore", desc := "(I)I" } : Jvm.MethodName) prog_10_method_90_code (2 : Nat) (Option.some Jvm.ClassFile.FieldType.int) ∈ sx_T := sx_tin 1375 rfl rfl
set_option maxRecDepth 100000 in
theorem tw_1376 : Jvm.Cond.constantLong "StringShedLaw" (180 : Nat) (4294967295 : Int64) ∈ sx_T := sx_tin 1376 rfl rfl
set_option maxRecDepth 100000 in
theorem tw_1377 : Jvm.Cond.arrayClass Jvm.ClassFile.FieldType.long ∈ sx_T := sx_tin 1377 rfl rfl
theorem inX0 : ∀ w ∈ u_ws RX0 TX0 2, w ∈ sx_T := show ∀ w ∈ [u_lay RX0 TX0 0, u_lay RX0 TX0 1], w ∈ sx_T from (sx_all1 tw_206 (sx_all1 tw_208 sx_all0))
theorem inX1 : ∀ w ∈ u_ws RX1 TX1 3, w ∈ sx_T := show ∀ w ∈ [u_lay RX1 TX1 0, u_lay RX1 TX1 1, u_lay RX1 TX1 2], w ∈ sx_T from (sx_all1 tw_178 (sx_all1 tw_180 (sx_all1 tw_182 sx_all0)))
theorem inX3 : ∀ w ∈ u_ws RX3 TX3 8, w ∈ sx_T := show ∀ w ∈ [u_lay RX3 TX3 0, u_lay RX3 TX3 1, u_lay RX3 TX3 2, u_lay RX3 TX3 3, u_lay RX3 TX3 4, u_lay RX3 TX3 5, u_lay RX3 TX3 6, u_lay RX3 TX3 7], w ∈ sx_T from (sx_all1 tw_149 (sx_all1 tw_151 (sx_all1 tw_153 (sx_all1 tw_155 (sx_all1 tw_157 (sx_all1 tw_159 (sx_all1 tw_161 (sx_all1 tw_163 sx_all0))))))))
theorem inX4 : ∀ w ∈ u_ws RX4 TX4 4, w ∈ sx_T := show ∀ w ∈ [u_lay RX4 TX4 0, u_lay RX4 TX4 1, u_lay RX4 TX4 2, u_lay RX4 TX4 3], w ∈ sx_T from (sx_all1 tw_105 (sx_all1 tw_107 (sx_all1 tw_109 (sx_all1 tw_111 sx_all0))))
theorem inX5 : ∀ w ∈ u_ws RX5 TX5 5, w ∈ sx_T := show ∀ w ∈ [u_lay RX5 TX5 0, u_lay RX5 TX5 1, u_lay RX5 TX5 2, u_lay RX5 TX5 3, u_lay RX5 TX5 4], w ∈ sx_T from (sx_all1 tw_127 (sx_all1 tw_129 (sx_all1 tw_131 (sx_all1 tw_133 (sx_all1 tw_135 sx_all0)))))
theorem inX6 : ∀ w ∈ u_ws RX6 TX6 2, w ∈ sx_T := show ∀ w ∈ [u_lay RX6 TX6 0, u_lay RX6 TX6 1], w ∈ sx_T from (sx_all1 tw_193 (sx_all1 tw_195 sx_all0))
theorem inX7 : ∀ w ∈ u_ws RX7 TX7 7, w ∈ sx_T := show ∀ w ∈ [u_lay RX7 TX7 0, u_lay RX7 TX7 1, u_lay RX7 TX7 2, u_lay RX7 TX7 3, u_lay RX7 TX7 4, u_lay RX7 TX7 5, u_lay RX7 TX7 6], w ∈ sx_T from (sx_all1 tw_218 (sx_all1 tw_220 (sx_all1 tw_222 (sx_all1 tw_224 (sx_all1 tw_226 (sx_all1 tw_228 (sx_all1 tw_230 sx_all0)))))))
theorem inX8 : ∀ w ∈ u_ws RX8 TX8 18, w ∈ sx_T := show ∀ w ∈ [u_lay RX8 TX8 0, u_lay RX8 TX8 1, u_lay RX8 TX8 2, u_lay RX8 TX8 3, u_lay RX8 TX8 4, u_lay RX8 TX8 5, u_lay RX8 TX8 6, u_lay RX8 TX8 7, u_lay RX8 TX8 8, u_lay RX8 TX8 9, u_lay RX8 TX8 10, u_lay RX8 TX8 11, u_lay RX8 TX8 12, u_lay RX8 TX8 13, u_lay RX8 TX8 14, u_lay RX8 TX8 15, u_lay RX8 TX8 16, u_lay RX8 TX8 17], w ∈ sx_T from (sx_all1 tw_989 (sx_all1 tw_991 (sx_all1 tw_993 (sx_all1 tw_995 (sx_all1 tw_997 (sx_all1 tw_999 (sx_all1 tw_1001 (sx_all1 tw_1003 (sx_all1 tw_1005 (sx_all1 tw_1007 (sx_all1 tw_1009 (sx_all1 tw_1011 (sx_all1 tw_1013 (sx_all1 tw_1015 (sx_all1 tw_1017 (sx_all1 tw_1019 (sx_all1 tw_1021 (sx_all1 tw_1023 sx_all0))))))))))))))))))
