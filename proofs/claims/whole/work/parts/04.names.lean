/-! Names by program (names.py, out.py): kinds, fields, methods, words of the tables by their places, what call sites and field sites need. -/
def lwG : List Cond := lw_tbl.filter goodWord
theorem lw_t {c : Cond} (i : Nat) (h : tables_1[i]? = some c) (hg : goodWord c = true) : c ∈ lwG := List.mem_filter.mpr ⟨List.mem_append_right _ (List.mem_of_getElem? h), hg⟩
theorem lw_s {c : Cond} (i : Nat) (h : (k2_sels lw_privs)[i]? = some c) (hg : goodWord c = true) : c ∈ lwG := List.mem_filter.mpr ⟨List.mem_append_left _ (List.mem_of_getElem? h), hg⟩
theorem lw_good : ∀ w ∈ lwG, (w.onTables && w.keeps) = true ∨ ∃ ty, w = .arrayClass ty := fun w hw => good_of_word (List.mem_filter.mp hw).2
theorem gc0 {c : Cond} (h : c ∈ lwG) : GoodIn lwG (c :: lwG) := fun w hw => by
  rcases List.mem_cons.mp hw with rfl | hw
  · exact ⟨h, lw_good _ h⟩
  · exact ⟨hw, lw_good _ hw⟩
theorem gcA {ws2 ws : List Cond} (h : ∀ w ∈ ws2, w ∈ lwG) (hg : GoodIn lwG ws) : GoodIn lwG (ws2 ++ ws) := fun w hw => (List.mem_append.mp hw).elim (fun h1 => ⟨h w h1, lw_good _ (h w h1)⟩) (hg w)
theorem m0 : ∀ w ∈ ([] : List Cond), w ∈ lwG := fun _ h => absurd h List.not_mem_nil
theorem m1 {c : Cond} {l : List Cond} (h : c ∈ lwG) (h2 : ∀ w ∈ l, w ∈ lwG) : ∀ w ∈ c :: l, w ∈ lwG := List.forall_mem_cons.mpr ⟨h, h2⟩
set_option maxRecDepth 100000 in
theorem w_1 : (Jvm.Cond.initialized "SerialPlant") ∈ lwG := lw_t 1 rfl rfl
set_option maxRecDepth 100000 in
theorem w_2 : (Jvm.Cond.initialized "SerialPlant$Slave") ∈ lwG := lw_t 2 rfl rfl
set_option maxRecDepth 100000 in
theorem w_3 : (Jvm.Cond.initialized "SerialPlant$Line") ∈ lwG := lw_t 3 rfl rfl
set_option maxRecDepth 100000 in
theorem w_4 : (Jvm.Cond.initialized "SerialPlant$Way") ∈ lwG := lw_t 4 rfl rfl
set_option maxRecDepth 100000 in
theorem w_5 : (Jvm.Cond.initialized "SerialPlant$Frame") ∈ lwG := lw_t 5 rfl rfl
set_option maxRecDepth 100000 in
theorem w_6 : (Jvm.Cond.initialized "SerialPlant$History") ∈ lwG := lw_t 6 rfl rfl
set_option maxRecDepth 100000 in
theorem w_7 : (Jvm.Cond.initialized "SerialPlantModel") ∈ lwG := lw_t 7 rfl rfl
set_option maxRecDepth 100000 in
theorem w_8 : (Jvm.Cond.initialized "SerialPlant$Job") ∈ lwG := lw_t 8 rfl rfl
set_option maxRecDepth 100000 in
theorem w_9 : (Jvm.Cond.initialized "SerialPlant$Poll") ∈ lwG := lw_t 9 rfl rfl
set_option maxRecDepth 100000 in
theorem w_10 : (Jvm.Cond.initialized "SerialPlant$Request") ∈ lwG := lw_t 10 rfl rfl
set_option maxRecDepth 100000 in
theorem w_11 : (Jvm.Cond.classLink "SerialPlantLaw" (7 : Nat) "SerialPlant") ∈ lwG := lw_t 11 rfl rfl
set_option maxRecDepth 100000 in
theorem w_12 : (Jvm.Cond.instantiable "SerialPlant" (8 : Nat)) ∈ lwG := lw_t 12 rfl rfl
set_option maxRecDepth 100000 in
theorem w_13 : (Jvm.Cond.methodLink "SerialPlantLaw" (9 : Nat) ({ cls := "SerialPlant", name := "<init>", desc := "()V" } : Jvm.MethodName)) ∈ lwG := lw_t 13 rfl rfl
set_option maxRecDepth 100000 in
theorem w_14 : (Jvm.Cond.instanceMethod ({ cls := "SerialPlant", name := "<init>", desc := "()V" } : Jvm.MethodName)) ∈ lwG := lw_t 14 rfl rfl
set_option maxRecDepth 100000 in
theorem w_16 : (Jvm.Cond.methodLink "SerialPlant" (1 : Nat) ({ cls := "java/lang/Object", name := "<init>", desc := "()V" } : Jvm.MethodName)) ∈ lwG := lw_t 16 rfl rfl
set_option maxRecDepth 100000 in
theorem w_17 : (Jvm.Cond.instanceMethod ({ cls := "java/lang/Object", name := "<init>", desc := "()V" } : Jvm.MethodName)) ∈ lwG := lw_t 17 rfl rfl
set_option maxRecDepth 100000 in
theorem w_19 : (Jvm.Cond.classLink "SerialPlant" (9 : Nat) "SerialPlant$Slave") ∈ lwG := lw_t 19 rfl rfl
set_option maxRecDepth 100000 in
theorem w_21 : (Jvm.Cond.instantiable "SerialPlant$Slave" (9 : Nat)) ∈ lwG := lw_t 21 rfl rfl
set_option maxRecDepth 100000 in
theorem w_22 : (Jvm.Cond.methodLink "SerialPlant" (15 : Nat) ({ cls := "SerialPlant$Slave", name := "<init>", desc := "(I)V" } : Jvm.MethodName)) ∈ lwG := lw_t 22 rfl rfl
set_option maxRecDepth 100000 in
theorem w_23 : (Jvm.Cond.instanceMethod ({ cls := "SerialPlant$Slave", name := "<init>", desc := "(I)V" } : Jvm.MethodName)) ∈ lwG := lw_t 23 rfl rfl
set_option maxRecDepth 100000 in
theorem w_25 : (Jvm.Cond.methodLink "SerialPlant$Slave" (3 : Nat) ({ cls := "java/lang/Object", name := "<init>", desc := "()V" } : Jvm.MethodName)) ∈ lwG := lw_t 25 rfl rfl
set_option maxRecDepth 100000 in
theorem w_56 : (Jvm.Cond.arrayClass Jvm.ClassFile.FieldType.int) ∈ lwG := lw_t 56 rfl rfl
set_option maxRecDepth 100000 in
theorem w_57 : (Jvm.Cond.classLink "SerialPlant" (18 : Nat) "SerialPlant$Line") ∈ lwG := lw_t 57 rfl rfl
set_option maxRecDepth 100000 in
theorem w_59 : (Jvm.Cond.instantiable "SerialPlant$Line" (9 : Nat)) ∈ lwG := lw_t 59 rfl rfl
set_option maxRecDepth 100000 in
theorem w_60 : (Jvm.Cond.methodLink "SerialPlant" (24 : Nat) ({ cls := "SerialPlant$Line", name := "<init>", desc := "(I)V" } : Jvm.MethodName)) ∈ lwG := lw_t 60 rfl rfl
set_option maxRecDepth 100000 in
theorem w_61 : (Jvm.Cond.instanceMethod ({ cls := "SerialPlant$Line", name := "<init>", desc := "(I)V" } : Jvm.MethodName)) ∈ lwG := lw_t 61 rfl rfl
set_option maxRecDepth 100000 in
theorem w_63 : (Jvm.Cond.methodLink "SerialPlant$Line" (3 : Nat) ({ cls := "java/lang/Object", name := "<init>", desc := "()V" } : Jvm.MethodName)) ∈ lwG := lw_t 63 rfl rfl
set_option maxRecDepth 100000 in
theorem w_64 : (Jvm.Cond.classLink "SerialPlant$Line" (9 : Nat) "SerialPlant$Way") ∈ lwG := lw_t 64 rfl rfl
set_option maxRecDepth 100000 in
theorem w_65 : (Jvm.Cond.instantiable "SerialPlant$Way" (2 : Nat)) ∈ lwG := lw_t 65 rfl rfl
set_option maxRecDepth 100000 in
theorem w_67 : (Jvm.Cond.instanceMethod ({ cls := "SerialPlant$Way", name := "<init>", desc := "()V" } : Jvm.MethodName)) ∈ lwG := lw_t 67 rfl rfl
set_option maxRecDepth 100000 in
theorem w_69 : (Jvm.Cond.methodLink "SerialPlant$Way" (1 : Nat) ({ cls := "java/lang/Object", name := "<init>", desc := "()V" } : Jvm.MethodName)) ∈ lwG := lw_t 69 rfl rfl
set_option maxRecDepth 100000 in
theorem w_70 : (Jvm.Cond.classLink "SerialPlant$Way" (7 : Nat) "SerialPlant$Frame") ∈ lwG := lw_t 70 rfl rfl
set_option maxRecDepth 100000 in
theorem w_71 : (Jvm.Cond.instantiable "SerialPlant$Frame" (2 : Nat)) ∈ lwG := lw_t 71 rfl rfl
set_option maxRecDepth 100000 in
theorem w_73 : (Jvm.Cond.instanceMethod ({ cls := "SerialPlant$Frame", name := "<init>", desc := "()V" } : Jvm.MethodName)) ∈ lwG := lw_t 73 rfl rfl
set_option maxRecDepth 100000 in
theorem w_75 : (Jvm.Cond.methodLink "SerialPlant$Frame" (3 : Nat) ({ cls := "java/lang/Object", name := "<init>", desc := "()V" } : Jvm.MethodName)) ∈ lwG := lw_t 75 rfl rfl
set_option maxRecDepth 100000 in
theorem w_92 : (Jvm.Cond.classLink "SerialPlant$Line" (21 : Nat) "SerialPlant$Job") ∈ lwG := lw_t 92 rfl rfl
set_option maxRecDepth 100000 in
theorem w_129 : (Jvm.Cond.classLink "SerialPlant" (25 : Nat) "SerialPlant$Request") ∈ lwG := lw_t 129 rfl rfl
set_option maxRecDepth 100000 in
theorem w_131 : (Jvm.Cond.classLink "SerialPlant" (31 : Nat) "SerialPlant$Poll") ∈ lwG := lw_t 131 rfl rfl
set_option maxRecDepth 100000 in
theorem w_133 : (Jvm.Cond.classLink "SerialPlant" (37 : Nat) "SerialPlant$History") ∈ lwG := lw_t 133 rfl rfl
set_option maxRecDepth 100000 in
theorem w_134 : (Jvm.Cond.instantiable "SerialPlant$History" (6 : Nat)) ∈ lwG := lw_t 134 rfl rfl
set_option maxRecDepth 100000 in
theorem w_136 : (Jvm.Cond.instanceMethod ({ cls := "SerialPlant$History", name := "<init>", desc := "()V" } : Jvm.MethodName)) ∈ lwG := lw_t 136 rfl rfl
set_option maxRecDepth 100000 in
theorem w_138 : (Jvm.Cond.methodLink "SerialPlant$History" (3 : Nat) ({ cls := "java/lang/Object", name := "<init>", desc := "()V" } : Jvm.MethodName)) ∈ lwG := lw_t 138 rfl rfl
set_option maxRecDepth 100000 in
theorem w_183 : (Jvm.Cond.methodLink "SerialPlantLaw" (13 : Nat) ({ cls := "SerialPlant", name := "attach", desc := "(III)Z" } : Jvm.MethodName)) ∈ lwG := lw_t 183 rfl rfl
set_option maxRecDepth 100000 in
theorem w_184 : (Jvm.Cond.instanceMethod ({ cls := "SerialPlant", name := "attach", desc := "(III)Z" } : Jvm.MethodName)) ∈ lwG := lw_t 184 rfl rfl
set_option maxRecDepth 100000 in
theorem w_185 : (Jvm.Cond.selects "SerialPlant" ({ cls := "SerialPlant", name := "attach", desc := "(III)Z" } : Jvm.MethodName) ({ cls := "SerialPlant", name := "attach", desc := "(III)Z" } : Jvm.MethodName)) ∈ lwG := lw_t 185 rfl rfl
set_option maxRecDepth 100000 in
theorem w_187 : (Jvm.Cond.methodLink "SerialPlant" (44 : Nat) ({ cls := "SerialPlant", name := "isSlave", desc := "(I)Z" } : Jvm.MethodName)) ∈ lwG := lw_t 187 rfl rfl
set_option maxRecDepth 100000 in
theorem w_188 : (Jvm.Cond.static ({ cls := "SerialPlant", name := "isSlave", desc := "(I)Z" } : Jvm.MethodName)) ∈ lwG := lw_t 188 rfl rfl
set_option maxRecDepth 100000 in
theorem w_190 : (Jvm.Cond.methodLink "SerialPlant" (48 : Nat) ({ cls := "SerialPlant", name := "isLine", desc := "(I)Z" } : Jvm.MethodName)) ∈ lwG := lw_t 190 rfl rfl
set_option maxRecDepth 100000 in
theorem w_191 : (Jvm.Cond.static ({ cls := "SerialPlant", name := "isLine", desc := "(I)Z" } : Jvm.MethodName)) ∈ lwG := lw_t 191 rfl rfl
set_option maxRecDepth 100000 in
theorem w_193 : (Jvm.Cond.methodLink "SerialPlant" (51 : Nat) ({ cls := "SerialPlant", name := "isWithin", desc := "(II)Z" } : Jvm.MethodName)) ∈ lwG := lw_t 193 rfl rfl
set_option maxRecDepth 100000 in
theorem w_194 : (Jvm.Cond.static ({ cls := "SerialPlant", name := "isWithin", desc := "(II)Z" } : Jvm.MethodName)) ∈ lwG := lw_t 194 rfl rfl
set_option maxRecDepth 100000 in
theorem w_196 : (Jvm.Cond.methodLink "SerialPlant" (55 : Nat) ({ cls := "SerialPlant$Slave", name := "isAttached", desc := "()Z" } : Jvm.MethodName)) ∈ lwG := lw_t 196 rfl rfl
set_option maxRecDepth 100000 in
theorem w_197 : (Jvm.Cond.instanceMethod ({ cls := "SerialPlant$Slave", name := "isAttached", desc := "()Z" } : Jvm.MethodName)) ∈ lwG := lw_t 197 rfl rfl
set_option maxRecDepth 100000 in
theorem w_198 : (Jvm.Cond.selects "SerialPlant$Slave" ({ cls := "SerialPlant$Slave", name := "isAttached", desc := "()Z" } : Jvm.MethodName) ({ cls := "SerialPlant$Slave", name := "isAttached", desc := "()Z" } : Jvm.MethodName)) ∈ lwG := lw_t 198 rfl rfl
set_option maxRecDepth 100000 in
theorem w_200 : (Jvm.Cond.methodLink "SerialPlantLaw" (18 : Nat) ({ cls := "SerialPlant", name := "power", desc := "(IZ)Z" } : Jvm.MethodName)) ∈ lwG := lw_t 200 rfl rfl
set_option maxRecDepth 100000 in
theorem w_201 : (Jvm.Cond.instanceMethod ({ cls := "SerialPlant", name := "power", desc := "(IZ)Z" } : Jvm.MethodName)) ∈ lwG := lw_t 201 rfl rfl
set_option maxRecDepth 100000 in
theorem w_202 : (Jvm.Cond.selects "SerialPlant" ({ cls := "SerialPlant", name := "power", desc := "(IZ)Z" } : Jvm.MethodName) ({ cls := "SerialPlant", name := "power", desc := "(IZ)Z" } : Jvm.MethodName)) ∈ lwG := lw_t 202 rfl rfl
set_option maxRecDepth 100000 in
theorem w_204 : (Jvm.Cond.methodLink "SerialPlantLaw" (23 : Nat) ({ cls := "SerialPlant", name := "process", desc := "(IIII)Z" } : Jvm.MethodName)) ∈ lwG := lw_t 204 rfl rfl
set_option maxRecDepth 100000 in
theorem w_205 : (Jvm.Cond.instanceMethod ({ cls := "SerialPlant", name := "process", desc := "(IIII)Z" } : Jvm.MethodName)) ∈ lwG := lw_t 205 rfl rfl
set_option maxRecDepth 100000 in
theorem w_206 : (Jvm.Cond.selects "SerialPlant" ({ cls := "SerialPlant", name := "process", desc := "(IIII)Z" } : Jvm.MethodName) ({ cls := "SerialPlant", name := "process", desc := "(IIII)Z" } : Jvm.MethodName)) ∈ lwG := lw_t 206 rfl rfl
set_option maxRecDepth 100000 in
theorem w_208 : (Jvm.Cond.methodLink "SerialPlant" (70 : Nat) ({ cls := "SerialPlant$Slave", name := "tableOf", desc := "(I)[I" } : Jvm.MethodName)) ∈ lwG := lw_t 208 rfl rfl
set_option maxRecDepth 100000 in
theorem w_209 : (Jvm.Cond.instanceMethod ({ cls := "SerialPlant$Slave", name := "tableOf", desc := "(I)[I" } : Jvm.MethodName)) ∈ lwG := lw_t 209 rfl rfl
set_option maxRecDepth 100000 in
theorem w_210 : (Jvm.Cond.selects "SerialPlant$Slave" ({ cls := "SerialPlant$Slave", name := "tableOf", desc := "(I)[I" } : Jvm.MethodName) ({ cls := "SerialPlant$Slave", name := "tableOf", desc := "(I)[I" } : Jvm.MethodName)) ∈ lwG := lw_t 210 rfl rfl
set_option maxRecDepth 100000 in
theorem w_212 : (Jvm.Cond.constant "SerialPlant" (74 : Nat) (65535 : Int32)) ∈ lwG := lw_t 212 rfl rfl
set_option maxRecDepth 100000 in
theorem w_213 : (Jvm.Cond.methodLink "SerialPlant" (75 : Nat) ({ cls := "SerialPlant", name := "isPlace", desc := "([II)Z" } : Jvm.MethodName)) ∈ lwG := lw_t 213 rfl rfl
set_option maxRecDepth 100000 in
theorem w_214 : (Jvm.Cond.static ({ cls := "SerialPlant", name := "isPlace", desc := "([II)Z" } : Jvm.MethodName)) ∈ lwG := lw_t 214 rfl rfl
set_option maxRecDepth 100000 in
theorem w_216 : (Jvm.Cond.methodLink "SerialPlantLaw" (28 : Nat) ({ cls := "SerialPlant", name := "cell", desc := "(III)I" } : Jvm.MethodName)) ∈ lwG := lw_t 216 rfl rfl
set_option maxRecDepth 100000 in
theorem w_217 : (Jvm.Cond.instanceMethod ({ cls := "SerialPlant", name := "cell", desc := "(III)I" } : Jvm.MethodName)) ∈ lwG := lw_t 217 rfl rfl
set_option maxRecDepth 100000 in
theorem w_218 : (Jvm.Cond.selects "SerialPlant" ({ cls := "SerialPlant", name := "cell", desc := "(III)I" } : Jvm.MethodName) ({ cls := "SerialPlant", name := "cell", desc := "(III)I" } : Jvm.MethodName)) ∈ lwG := lw_t 218 rfl rfl
set_option maxRecDepth 100000 in
theorem w_220 : (Jvm.Cond.methodLink "SerialPlantLaw" (33 : Nat) ({ cls := "SerialPlant", name := "point", desc := "(III)I" } : Jvm.MethodName)) ∈ lwG := lw_t 220 rfl rfl
set_option maxRecDepth 100000 in
theorem w_221 : (Jvm.Cond.instanceMethod ({ cls := "SerialPlant", name := "point", desc := "(III)I" } : Jvm.MethodName)) ∈ lwG := lw_t 221 rfl rfl
set_option maxRecDepth 100000 in
theorem w_222 : (Jvm.Cond.selects "SerialPlant" ({ cls := "SerialPlant", name := "point", desc := "(III)I" } : Jvm.MethodName) ({ cls := "SerialPlant", name := "point", desc := "(III)I" } : Jvm.MethodName)) ∈ lwG := lw_t 222 rfl rfl
set_option maxRecDepth 100000 in
theorem w_224 : (Jvm.Cond.methodLink "SerialPlant" (79 : Nat) ({ cls := "SerialPlant", name := "isAttachedSlave", desc := "(I)Z" } : Jvm.MethodName)) ∈ lwG := lw_t 224 rfl rfl
set_option maxRecDepth 100000 in
theorem w_226 : (Jvm.Cond.instanceMethod ({ cls := "SerialPlant", name := "isAttachedSlave", desc := "(I)Z" } : Jvm.MethodName)) ∈ lwG := lw_t 226 rfl rfl
set_option maxRecDepth 100000 in
theorem w_228 : (Jvm.Cond.instantiable "SerialPlant$Poll" (8 : Nat)) ∈ lwG := lw_t 228 rfl rfl
set_option maxRecDepth 100000 in
theorem w_229 : (Jvm.Cond.methodLink "SerialPlant" (85 : Nat) ({ cls := "SerialPlant$Poll", name := "<init>", desc := "(IIIILSerialPlant$History;)V" } : Jvm.MethodName)) ∈ lwG := lw_t 229 rfl rfl
set_option maxRecDepth 100000 in
theorem w_230 : (Jvm.Cond.instanceMethod ({ cls := "SerialPlant$Poll", name := "<init>", desc := "(IIIILSerialPlant$History;)V" } : Jvm.MethodName)) ∈ lwG := lw_t 230 rfl rfl
set_option maxRecDepth 100000 in
theorem w_232 : (Jvm.Cond.methodLink "SerialPlant$Poll" (3 : Nat) ({ cls := "SerialPlant$Job", name := "<init>", desc := "(IIIIIJ)V" } : Jvm.MethodName)) ∈ lwG := lw_t 232 rfl rfl
set_option maxRecDepth 100000 in
theorem w_233 : (Jvm.Cond.instanceMethod ({ cls := "SerialPlant$Job", name := "<init>", desc := "(IIIIIJ)V" } : Jvm.MethodName)) ∈ lwG := lw_t 233 rfl rfl
set_option maxRecDepth 100000 in
theorem w_235 : (Jvm.Cond.methodLink "SerialPlant$Job" (3 : Nat) ({ cls := "java/lang/Object", name := "<init>", desc := "()V" } : Jvm.MethodName)) ∈ lwG := lw_t 235 rfl rfl
set_option maxRecDepth 100000 in
theorem w_271 : (Jvm.Cond.methodLink "SerialPlantLaw" (39 : Nat) ({ cls := "SerialPlant", name := "request", desc := "(IIIIJ)I" } : Jvm.MethodName)) ∈ lwG := lw_t 271 rfl rfl
set_option maxRecDepth 100000 in
theorem w_272 : (Jvm.Cond.instanceMethod ({ cls := "SerialPlant", name := "request", desc := "(IIIIJ)I" } : Jvm.MethodName)) ∈ lwG := lw_t 272 rfl rfl
set_option maxRecDepth 100000 in
theorem w_273 : (Jvm.Cond.selects "SerialPlant" ({ cls := "SerialPlant", name := "request", desc := "(IIIIJ)I" } : Jvm.MethodName) ({ cls := "SerialPlant", name := "request", desc := "(IIIIJ)I" } : Jvm.MethodName)) ∈ lwG := lw_t 273 rfl rfl
set_option maxRecDepth 100000 in
theorem w_275 : (Jvm.Cond.instantiable "SerialPlant$Request" (9 : Nat)) ∈ lwG := lw_t 275 rfl rfl
set_option maxRecDepth 100000 in
theorem w_276 : (Jvm.Cond.methodLink "SerialPlant" (91 : Nat) ({ cls := "SerialPlant$Request", name := "<init>", desc := "(IIIIIJ)V" } : Jvm.MethodName)) ∈ lwG := lw_t 276 rfl rfl
set_option maxRecDepth 100000 in
theorem w_277 : (Jvm.Cond.instanceMethod ({ cls := "SerialPlant$Request", name := "<init>", desc := "(IIIIIJ)V" } : Jvm.MethodName)) ∈ lwG := lw_t 277 rfl rfl
set_option maxRecDepth 100000 in
theorem w_279 : (Jvm.Cond.methodLink "SerialPlant$Request" (3 : Nat) ({ cls := "SerialPlant$Job", name := "<init>", desc := "(IIIIIJ)V" } : Jvm.MethodName)) ∈ lwG := lw_t 279 rfl rfl
set_option maxRecDepth 100000 in
theorem w_299 : (Jvm.Cond.methodLink "SerialPlant" (94 : Nat) ({ cls := "SerialPlant", name := "accept", desc := "(LSerialPlant$Request;)V" } : Jvm.MethodName)) ∈ lwG := lw_t 299 rfl rfl
set_option maxRecDepth 100000 in
theorem w_301 : (Jvm.Cond.instanceMethod ({ cls := "SerialPlant", name := "accept", desc := "(LSerialPlant$Request;)V" } : Jvm.MethodName)) ∈ lwG := lw_t 301 rfl rfl
set_option maxRecDepth 100000 in
theorem w_303 : (Jvm.Cond.methodLink "SerialPlant" (165 : Nat) ({ cls := "SerialPlant$Request", name := "isBroadcast", desc := "()Z" } : Jvm.MethodName)) ∈ lwG := lw_t 303 rfl rfl
set_option maxRecDepth 100000 in
theorem w_304 : (Jvm.Cond.sameMethod "SerialPlant$Request" "SerialPlant$Job" "isBroadcast" "()Z") ∈ lwG := lw_t 304 rfl rfl
set_option maxRecDepth 100000 in
theorem w_306 : (Jvm.Cond.selects "SerialPlant$Request" ({ cls := "SerialPlant$Request", name := "isBroadcast", desc := "()Z" } : Jvm.MethodName) ({ cls := "SerialPlant$Job", name := "isBroadcast", desc := "()Z" } : Jvm.MethodName)) ∈ lwG := lw_t 306 rfl rfl
set_option maxRecDepth 100000 in
theorem w_307 : (Jvm.Cond.instanceMethod ({ cls := "SerialPlant$Job", name := "isBroadcast", desc := "()Z" } : Jvm.MethodName)) ∈ lwG := lw_t 307 rfl rfl
set_option maxRecDepth 100000 in
theorem w_309 : (Jvm.Cond.methodLink "SerialPlant" (168 : Nat) ({ cls := "SerialPlant$Line", name := "enqueue", desc := "(LSerialPlant$Job;)Z" } : Jvm.MethodName)) ∈ lwG := lw_t 309 rfl rfl
set_option maxRecDepth 100000 in
theorem w_310 : (Jvm.Cond.instanceMethod ({ cls := "SerialPlant$Line", name := "enqueue", desc := "(LSerialPlant$Job;)Z" } : Jvm.MethodName)) ∈ lwG := lw_t 310 rfl rfl
set_option maxRecDepth 100000 in
theorem w_311 : (Jvm.Cond.selects "SerialPlant$Line" ({ cls := "SerialPlant$Line", name := "enqueue", desc := "(LSerialPlant$Job;)Z" } : Jvm.MethodName) ({ cls := "SerialPlant$Line", name := "enqueue", desc := "(LSerialPlant$Job;)Z" } : Jvm.MethodName)) ∈ lwG := lw_t 311 rfl rfl
set_option maxRecDepth 100000 in
theorem w_313 : (Jvm.Cond.methodLink "SerialPlant" (172 : Nat) ({ cls := "SerialPlant", name := "enqueue", desc := "(LSerialPlant$Job;)Z" } : Jvm.MethodName)) ∈ lwG := lw_t 313 rfl rfl
set_option maxRecDepth 100000 in
theorem w_315 : (Jvm.Cond.instanceMethod ({ cls := "SerialPlant", name := "enqueue", desc := "(LSerialPlant$Job;)Z" } : Jvm.MethodName)) ∈ lwG := lw_t 315 rfl rfl
set_option maxRecDepth 100000 in
theorem w_317 : (Jvm.Cond.methodLink "SerialPlant" (173 : Nat) ({ cls := "SerialPlant$Request", name := "refuse", desc := "(I)V" } : Jvm.MethodName)) ∈ lwG := lw_t 317 rfl rfl
set_option maxRecDepth 100000 in
theorem w_318 : (Jvm.Cond.instanceMethod ({ cls := "SerialPlant$Request", name := "refuse", desc := "(I)V" } : Jvm.MethodName)) ∈ lwG := lw_t 318 rfl rfl
set_option maxRecDepth 100000 in
theorem w_319 : (Jvm.Cond.selects "SerialPlant$Request" ({ cls := "SerialPlant$Request", name := "refuse", desc := "(I)V" } : Jvm.MethodName) ({ cls := "SerialPlant$Request", name := "refuse", desc := "(I)V" } : Jvm.MethodName)) ∈ lwG := lw_t 319 rfl rfl
set_option maxRecDepth 100000 in
theorem w_321 : (Jvm.Cond.methodLink "SerialPlantLaw" (44 : Nat) ({ cls := "SerialPlant", name := "fault", desc := "(IZI)Z" } : Jvm.MethodName)) ∈ lwG := lw_t 321 rfl rfl
set_option maxRecDepth 100000 in
theorem w_322 : (Jvm.Cond.instanceMethod ({ cls := "SerialPlant", name := "fault", desc := "(IZI)Z" } : Jvm.MethodName)) ∈ lwG := lw_t 322 rfl rfl
set_option maxRecDepth 100000 in
theorem w_323 : (Jvm.Cond.selects "SerialPlant" ({ cls := "SerialPlant", name := "fault", desc := "(IZI)Z" } : Jvm.MethodName) ({ cls := "SerialPlant", name := "fault", desc := "(IZI)Z" } : Jvm.MethodName)) ∈ lwG := lw_t 323 rfl rfl
set_option maxRecDepth 100000 in
theorem w_325 : (Jvm.Cond.methodLink "SerialPlant" (98 : Nat) ({ cls := "SerialPlant$Line", name := "wayOf", desc := "(Z)LSerialPlant$Way;" } : Jvm.MethodName)) ∈ lwG := lw_t 325 rfl rfl
set_option maxRecDepth 100000 in
theorem w_326 : (Jvm.Cond.instanceMethod ({ cls := "SerialPlant$Line", name := "wayOf", desc := "(Z)LSerialPlant$Way;" } : Jvm.MethodName)) ∈ lwG := lw_t 326 rfl rfl
set_option maxRecDepth 100000 in
theorem w_327 : (Jvm.Cond.selects "SerialPlant$Line" ({ cls := "SerialPlant$Line", name := "wayOf", desc := "(Z)LSerialPlant$Way;" } : Jvm.MethodName) ({ cls := "SerialPlant$Line", name := "wayOf", desc := "(Z)LSerialPlant$Way;" } : Jvm.MethodName)) ∈ lwG := lw_t 327 rfl rfl
set_option maxRecDepth 100000 in
theorem w_329 : (Jvm.Cond.methodLink "SerialPlant" (102 : Nat) ({ cls := "SerialPlant$Way", name := "plantFault", desc := "()Z" } : Jvm.MethodName)) ∈ lwG := lw_t 329 rfl rfl
set_option maxRecDepth 100000 in
theorem w_330 : (Jvm.Cond.instanceMethod ({ cls := "SerialPlant$Way", name := "plantFault", desc := "()Z" } : Jvm.MethodName)) ∈ lwG := lw_t 330 rfl rfl
set_option maxRecDepth 100000 in
theorem w_331 : (Jvm.Cond.selects "SerialPlant$Way" ({ cls := "SerialPlant$Way", name := "plantFault", desc := "()Z" } : Jvm.MethodName) ({ cls := "SerialPlant$Way", name := "plantFault", desc := "()Z" } : Jvm.MethodName)) ∈ lwG := lw_t 331 rfl rfl
set_option maxRecDepth 100000 in
theorem w_333 : (Jvm.Cond.methodLink "SerialPlantLaw" (49 : Nat) ({ cls := "SerialPlant", name := "tick", desc := "()I" } : Jvm.MethodName)) ∈ lwG := lw_t 333 rfl rfl
set_option maxRecDepth 100000 in
theorem w_334 : (Jvm.Cond.instanceMethod ({ cls := "SerialPlant", name := "tick", desc := "()I" } : Jvm.MethodName)) ∈ lwG := lw_t 334 rfl rfl
set_option maxRecDepth 100000 in
theorem w_335 : (Jvm.Cond.selects "SerialPlant" ({ cls := "SerialPlant", name := "tick", desc := "()I" } : Jvm.MethodName) ({ cls := "SerialPlant", name := "tick", desc := "()I" } : Jvm.MethodName)) ∈ lwG := lw_t 335 rfl rfl
set_option maxRecDepth 100000 in
theorem w_337 : (Jvm.Cond.methodLink "SerialPlant" (110 : Nat) ({ cls := "SerialPlant", name := "queuePolls", desc := "()V" } : Jvm.MethodName)) ∈ lwG := lw_t 337 rfl rfl
set_option maxRecDepth 100000 in
theorem w_339 : (Jvm.Cond.instanceMethod ({ cls := "SerialPlant", name := "queuePolls", desc := "()V" } : Jvm.MethodName)) ∈ lwG := lw_t 339 rfl rfl
set_option maxRecDepth 100000 in
theorem w_341 : (Jvm.Cond.methodLink "SerialPlant" (179 : Nat) ({ cls := "SerialPlant", name := "isOnItsWay", desc := "(LSerialPlant$Job;)Z" } : Jvm.MethodName)) ∈ lwG := lw_t 341 rfl rfl
set_option maxRecDepth 100000 in
theorem w_343 : (Jvm.Cond.instanceMethod ({ cls := "SerialPlant", name := "isOnItsWay", desc := "(LSerialPlant$Job;)Z" } : Jvm.MethodName)) ∈ lwG := lw_t 343 rfl rfl
set_option maxRecDepth 100000 in
theorem w_345 : (Jvm.Cond.methodLink "SerialPlant" (182 : Nat) ({ cls := "SerialPlant$Line", name := "has", desc := "(LSerialPlant$Job;)Z" } : Jvm.MethodName)) ∈ lwG := lw_t 345 rfl rfl
set_option maxRecDepth 100000 in
theorem w_346 : (Jvm.Cond.instanceMethod ({ cls := "SerialPlant$Line", name := "has", desc := "(LSerialPlant$Job;)Z" } : Jvm.MethodName)) ∈ lwG := lw_t 346 rfl rfl
set_option maxRecDepth 100000 in
theorem w_347 : (Jvm.Cond.selects "SerialPlant$Line" ({ cls := "SerialPlant$Line", name := "has", desc := "(LSerialPlant$Job;)Z" } : Jvm.MethodName) ({ cls := "SerialPlant$Line", name := "has", desc := "(LSerialPlant$Job;)Z" } : Jvm.MethodName)) ∈ lwG := lw_t 347 rfl rfl
set_option maxRecDepth 100000 in
theorem w_349 : (Jvm.Cond.methodLink "SerialPlant" (113 : Nat) ({ cls := "SerialPlant", name := "serve", desc := "(LSerialPlant$Line;)V" } : Jvm.MethodName)) ∈ lwG := lw_t 349 rfl rfl
set_option maxRecDepth 100000 in
theorem w_351 : (Jvm.Cond.instanceMethod ({ cls := "SerialPlant", name := "serve", desc := "(LSerialPlant$Line;)V" } : Jvm.MethodName)) ∈ lwG := lw_t 351 rfl rfl
set_option maxRecDepth 100000 in
theorem w_353 : (Jvm.Cond.methodLink "SerialPlant" (185 : Nat) ({ cls := "SerialPlant", name := "takeAnswer", desc := "(LSerialPlant$Line;)V" } : Jvm.MethodName)) ∈ lwG := lw_t 353 rfl rfl
set_option maxRecDepth 100000 in
theorem w_355 : (Jvm.Cond.instanceMethod ({ cls := "SerialPlant", name := "takeAnswer", desc := "(LSerialPlant$Line;)V" } : Jvm.MethodName)) ∈ lwG := lw_t 355 rfl rfl
set_option maxRecDepth 100000 in
theorem w_357 : (Jvm.Cond.methodLink "SerialPlant" (206 : Nat) ({ cls := "SerialPlant$Line", name := "release", desc := "()V" } : Jvm.MethodName)) ∈ lwG := lw_t 357 rfl rfl
set_option maxRecDepth 100000 in
theorem w_358 : (Jvm.Cond.instanceMethod ({ cls := "SerialPlant$Line", name := "release", desc := "()V" } : Jvm.MethodName)) ∈ lwG := lw_t 358 rfl rfl
set_option maxRecDepth 100000 in
theorem w_359 : (Jvm.Cond.selects "SerialPlant$Line" ({ cls := "SerialPlant$Line", name := "release", desc := "()V" } : Jvm.MethodName) ({ cls := "SerialPlant$Line", name := "release", desc := "()V" } : Jvm.MethodName)) ∈ lwG := lw_t 359 rfl rfl
set_option maxRecDepth 100000 in
theorem w_361 : (Jvm.Cond.methodLink "SerialPlant" (213 : Nat) ({ cls := "SerialPlant$Job", name := "take", desc := "(LSerialPlant$Frame;I)V" } : Jvm.MethodName)) ∈ lwG := lw_t 361 rfl rfl
set_option maxRecDepth 100000 in
theorem w_363 : (Jvm.Cond.sameMethod "SerialPlant$Job" "SerialPlant$Job" "take" "(LSerialPlant$Frame;I)V") ∈ lwG := lw_t 363 rfl rfl
set_option maxRecDepth 100000 in
theorem w_364 : (Jvm.Cond.selects "SerialPlant$Poll" ({ cls := "SerialPlant$Job", name := "take", desc := "(LSerialPlant$Frame;I)V" } : Jvm.MethodName) ({ cls := "SerialPlant$Poll", name := "take", desc := "(LSerialPlant$Frame;I)V" } : Jvm.MethodName)) ∈ lwG := lw_t 364 rfl rfl
set_option maxRecDepth 100000 in
theorem w_365 : (Jvm.Cond.instanceMethod ({ cls := "SerialPlant$Poll", name := "take", desc := "(LSerialPlant$Frame;I)V" } : Jvm.MethodName)) ∈ lwG := lw_t 365 rfl rfl
set_option maxRecDepth 100000 in
theorem w_367 : (Jvm.Cond.methodLink "SerialPlant$Poll" (19 : Nat) ({ cls := "SerialPlant$Frame", name := "byteAt", desc := "(I)I" } : Jvm.MethodName)) ∈ lwG := lw_t 367 rfl rfl
set_option maxRecDepth 100000 in
theorem w_368 : (Jvm.Cond.instanceMethod ({ cls := "SerialPlant$Frame", name := "byteAt", desc := "(I)I" } : Jvm.MethodName)) ∈ lwG := lw_t 368 rfl rfl
set_option maxRecDepth 100000 in
theorem w_369 : (Jvm.Cond.selects "SerialPlant$Frame" ({ cls := "SerialPlant$Frame", name := "byteAt", desc := "(I)I" } : Jvm.MethodName) ({ cls := "SerialPlant$Frame", name := "byteAt", desc := "(I)I" } : Jvm.MethodName)) ∈ lwG := lw_t 369 rfl rfl
set_option maxRecDepth 100000 in
theorem w_371 : (Jvm.Cond.methodLink "SerialPlant$Poll" (25 : Nat) ({ cls := "SerialPlant$Frame", name := "wordAt", desc := "(I)I" } : Jvm.MethodName)) ∈ lwG := lw_t 371 rfl rfl
set_option maxRecDepth 100000 in
theorem w_372 : (Jvm.Cond.instanceMethod ({ cls := "SerialPlant$Frame", name := "wordAt", desc := "(I)I" } : Jvm.MethodName)) ∈ lwG := lw_t 372 rfl rfl
set_option maxRecDepth 100000 in
theorem w_373 : (Jvm.Cond.selects "SerialPlant$Frame" ({ cls := "SerialPlant$Frame", name := "wordAt", desc := "(I)I" } : Jvm.MethodName) ({ cls := "SerialPlant$Frame", name := "wordAt", desc := "(I)I" } : Jvm.MethodName)) ∈ lwG := lw_t 373 rfl rfl
set_option maxRecDepth 100000 in
theorem w_375 : (Jvm.Cond.methodLink "SerialPlant$Poll" (28 : Nat) ({ cls := "SerialPlant$History", name := "keep", desc := "(III)V" } : Jvm.MethodName)) ∈ lwG := lw_t 375 rfl rfl
set_option maxRecDepth 100000 in
theorem w_376 : (Jvm.Cond.instanceMethod ({ cls := "SerialPlant$History", name := "keep", desc := "(III)V" } : Jvm.MethodName)) ∈ lwG := lw_t 376 rfl rfl
set_option maxRecDepth 100000 in
theorem w_377 : (Jvm.Cond.selects "SerialPlant$History" ({ cls := "SerialPlant$History", name := "keep", desc := "(III)V" } : Jvm.MethodName) ({ cls := "SerialPlant$History", name := "keep", desc := "(III)V" } : Jvm.MethodName)) ∈ lwG := lw_t 377 rfl rfl
set_option maxRecDepth 100000 in
theorem w_379 : (Jvm.Cond.selects "SerialPlant$Request" ({ cls := "SerialPlant$Job", name := "take", desc := "(LSerialPlant$Frame;I)V" } : Jvm.MethodName) ({ cls := "SerialPlant$Request", name := "take", desc := "(LSerialPlant$Frame;I)V" } : Jvm.MethodName)) ∈ lwG := lw_t 379 rfl rfl
set_option maxRecDepth 100000 in
theorem w_380 : (Jvm.Cond.instanceMethod ({ cls := "SerialPlant$Request", name := "take", desc := "(LSerialPlant$Frame;I)V" } : Jvm.MethodName)) ∈ lwG := lw_t 380 rfl rfl
set_option maxRecDepth 100000 in
theorem w_382 : (Jvm.Cond.methodLink "SerialPlant$Request" (18 : Nat) ({ cls := "SerialPlant$Frame", name := "byteAt", desc := "(I)I" } : Jvm.MethodName)) ∈ lwG := lw_t 382 rfl rfl
set_option maxRecDepth 100000 in
theorem w_383 : (Jvm.Cond.methodLink "SerialPlant$Request" (24 : Nat) ({ cls := "SerialPlant$Request", name := "refuse", desc := "(I)V" } : Jvm.MethodName)) ∈ lwG := lw_t 383 rfl rfl
set_option maxRecDepth 100000 in
theorem w_384 : (Jvm.Cond.methodLink "SerialPlant$Request" (28 : Nat) ({ cls := "SerialPlant$Request", name := "read", desc := "(LSerialPlant$Frame;)J" } : Jvm.MethodName)) ∈ lwG := lw_t 384 rfl rfl
set_option maxRecDepth 100000 in
theorem w_385 : (Jvm.Cond.instanceMethod ({ cls := "SerialPlant$Request", name := "read", desc := "(LSerialPlant$Frame;)J" } : Jvm.MethodName)) ∈ lwG := lw_t 385 rfl rfl
set_option maxRecDepth 100000 in
theorem w_386 : (Jvm.Cond.selects "SerialPlant$Request" ({ cls := "SerialPlant$Request", name := "read", desc := "(LSerialPlant$Frame;)J" } : Jvm.MethodName) ({ cls := "SerialPlant$Request", name := "read", desc := "(LSerialPlant$Frame;)J" } : Jvm.MethodName)) ∈ lwG := lw_t 386 rfl rfl
set_option maxRecDepth 100000 in
theorem w_388 : (Jvm.Cond.methodLink "SerialPlant$Request" (39 : Nat) ({ cls := "SerialPlant$Request", name := "readBits", desc := "(LSerialPlant$Frame;)J" } : Jvm.MethodName)) ∈ lwG := lw_t 388 rfl rfl
set_option maxRecDepth 100000 in
theorem w_389 : (Jvm.Cond.instanceMethod ({ cls := "SerialPlant$Request", name := "readBits", desc := "(LSerialPlant$Frame;)J" } : Jvm.MethodName)) ∈ lwG := lw_t 389 rfl rfl
set_option maxRecDepth 100000 in
theorem w_390 : (Jvm.Cond.selects "SerialPlant$Request" ({ cls := "SerialPlant$Request", name := "readBits", desc := "(LSerialPlant$Frame;)J" } : Jvm.MethodName) ({ cls := "SerialPlant$Request", name := "readBits", desc := "(LSerialPlant$Frame;)J" } : Jvm.MethodName)) ∈ lwG := lw_t 390 rfl rfl
set_option maxRecDepth 100000 in
theorem w_392 : (Jvm.Cond.methodLink "SerialPlant$Request" (48 : Nat) ({ cls := "SerialPlant$Request", name := "bitBytes", desc := "()I" } : Jvm.MethodName)) ∈ lwG := lw_t 392 rfl rfl
set_option maxRecDepth 100000 in
theorem w_393 : (Jvm.Cond.sameMethod "SerialPlant$Request" "SerialPlant$Job" "bitBytes" "()I") ∈ lwG := lw_t 393 rfl rfl
set_option maxRecDepth 100000 in
theorem w_395 : (Jvm.Cond.selects "SerialPlant$Request" ({ cls := "SerialPlant$Request", name := "bitBytes", desc := "()I" } : Jvm.MethodName) ({ cls := "SerialPlant$Job", name := "bitBytes", desc := "()I" } : Jvm.MethodName)) ∈ lwG := lw_t 395 rfl rfl
set_option maxRecDepth 100000 in
theorem w_396 : (Jvm.Cond.instanceMethod ({ cls := "SerialPlant$Job", name := "bitBytes", desc := "()I" } : Jvm.MethodName)) ∈ lwG := lw_t 396 rfl rfl
set_option maxRecDepth 100000 in
theorem w_398 : (Jvm.Cond.methodLink "SerialPlant$Request" (42 : Nat) ({ cls := "SerialPlant$Request", name := "readWords", desc := "(LSerialPlant$Frame;)J" } : Jvm.MethodName)) ∈ lwG := lw_t 398 rfl rfl
set_option maxRecDepth 100000 in
theorem w_399 : (Jvm.Cond.instanceMethod ({ cls := "SerialPlant$Request", name := "readWords", desc := "(LSerialPlant$Frame;)J" } : Jvm.MethodName)) ∈ lwG := lw_t 399 rfl rfl
set_option maxRecDepth 100000 in
theorem w_400 : (Jvm.Cond.selects "SerialPlant$Request" ({ cls := "SerialPlant$Request", name := "readWords", desc := "(LSerialPlant$Frame;)J" } : Jvm.MethodName) ({ cls := "SerialPlant$Request", name := "readWords", desc := "(LSerialPlant$Frame;)J" } : Jvm.MethodName)) ∈ lwG := lw_t 400 rfl rfl
set_option maxRecDepth 100000 in
theorem w_402 : (Jvm.Cond.methodLink "SerialPlant$Request" (45 : Nat) ({ cls := "SerialPlant$Frame", name := "wordAt", desc := "(I)I" } : Jvm.MethodName)) ∈ lwG := lw_t 402 rfl rfl
set_option maxRecDepth 100000 in
theorem w_403 : (Jvm.Cond.methodLink "SerialPlant" (188 : Nat) ({ cls := "SerialPlant$Line", name := "isOverdue", desc := "(I)Z" } : Jvm.MethodName)) ∈ lwG := lw_t 403 rfl rfl
set_option maxRecDepth 100000 in
theorem w_404 : (Jvm.Cond.instanceMethod ({ cls := "SerialPlant$Line", name := "isOverdue", desc := "(I)Z" } : Jvm.MethodName)) ∈ lwG := lw_t 404 rfl rfl
set_option maxRecDepth 100000 in
theorem w_405 : (Jvm.Cond.selects "SerialPlant$Line" ({ cls := "SerialPlant$Line", name := "isOverdue", desc := "(I)Z" } : Jvm.MethodName) ({ cls := "SerialPlant$Line", name := "isOverdue", desc := "(I)Z" } : Jvm.MethodName)) ∈ lwG := lw_t 405 rfl rfl
set_option maxRecDepth 100000 in
theorem w_407 : (Jvm.Cond.methodLink "SerialPlant$Line" (47 : Nat) ({ cls := "SerialPlant$Job", name := "isBroadcast", desc := "()Z" } : Jvm.MethodName)) ∈ lwG := lw_t 407 rfl rfl
set_option maxRecDepth 100000 in
theorem w_408 : (Jvm.Cond.methodLink "SerialPlant" (191 : Nat) ({ cls := "SerialPlant$Line", name := "maySendAgain", desc := "()Z" } : Jvm.MethodName)) ∈ lwG := lw_t 408 rfl rfl
set_option maxRecDepth 100000 in
theorem w_409 : (Jvm.Cond.instanceMethod ({ cls := "SerialPlant$Line", name := "maySendAgain", desc := "()Z" } : Jvm.MethodName)) ∈ lwG := lw_t 409 rfl rfl
set_option maxRecDepth 100000 in
theorem w_410 : (Jvm.Cond.selects "SerialPlant$Line" ({ cls := "SerialPlant$Line", name := "maySendAgain", desc := "()Z" } : Jvm.MethodName) ({ cls := "SerialPlant$Line", name := "maySendAgain", desc := "()Z" } : Jvm.MethodName)) ∈ lwG := lw_t 410 rfl rfl
set_option maxRecDepth 100000 in
theorem w_412 : (Jvm.Cond.methodLink "SerialPlant" (194 : Nat) ({ cls := "SerialPlant", name := "send", desc := "(LSerialPlant$Line;)V" } : Jvm.MethodName)) ∈ lwG := lw_t 412 rfl rfl
set_option maxRecDepth 100000 in
theorem w_414 : (Jvm.Cond.instanceMethod ({ cls := "SerialPlant", name := "send", desc := "(LSerialPlant$Line;)V" } : Jvm.MethodName)) ∈ lwG := lw_t 414 rfl rfl
set_option maxRecDepth 100000 in
theorem w_416 : (Jvm.Cond.methodLink "SerialPlant" (217 : Nat) ({ cls := "SerialPlant$Line", name := "markSending", desc := "(I)V" } : Jvm.MethodName)) ∈ lwG := lw_t 416 rfl rfl
set_option maxRecDepth 100000 in
theorem w_417 : (Jvm.Cond.instanceMethod ({ cls := "SerialPlant$Line", name := "markSending", desc := "(I)V" } : Jvm.MethodName)) ∈ lwG := lw_t 417 rfl rfl
set_option maxRecDepth 100000 in
theorem w_418 : (Jvm.Cond.selects "SerialPlant$Line" ({ cls := "SerialPlant$Line", name := "markSending", desc := "(I)V" } : Jvm.MethodName) ({ cls := "SerialPlant$Line", name := "markSending", desc := "(I)V" } : Jvm.MethodName)) ∈ lwG := lw_t 418 rfl rfl
set_option maxRecDepth 100000 in
theorem w_420 : (Jvm.Cond.methodLink "SerialPlant" (222 : Nat) ({ cls := "SerialPlant$Job", name := "writeTo", desc := "(LSerialPlant$Frame;)V" } : Jvm.MethodName)) ∈ lwG := lw_t 420 rfl rfl
set_option maxRecDepth 100000 in
theorem w_421 : (Jvm.Cond.instanceMethod ({ cls := "SerialPlant$Job", name := "writeTo", desc := "(LSerialPlant$Frame;)V" } : Jvm.MethodName)) ∈ lwG := lw_t 421 rfl rfl
set_option maxRecDepth 100000 in
theorem w_422 : (Jvm.Cond.sameMethod "SerialPlant$Job" "SerialPlant$Job" "writeTo" "(LSerialPlant$Frame;)V") ∈ lwG := lw_t 422 rfl rfl
set_option maxRecDepth 100000 in
theorem w_423 : (Jvm.Cond.selects "SerialPlant$Poll" ({ cls := "SerialPlant$Job", name := "writeTo", desc := "(LSerialPlant$Frame;)V" } : Jvm.MethodName) ({ cls := "SerialPlant$Job", name := "writeTo", desc := "(LSerialPlant$Frame;)V" } : Jvm.MethodName)) ∈ lwG := lw_t 423 rfl rfl
set_option maxRecDepth 100000 in
theorem w_424 : (Jvm.Cond.selects "SerialPlant$Request" ({ cls := "SerialPlant$Job", name := "writeTo", desc := "(LSerialPlant$Frame;)V" } : Jvm.MethodName) ({ cls := "SerialPlant$Job", name := "writeTo", desc := "(LSerialPlant$Frame;)V" } : Jvm.MethodName)) ∈ lwG := lw_t 424 rfl rfl
set_option maxRecDepth 100000 in
theorem w_426 : (Jvm.Cond.methodLink "SerialPlant$Job" (45 : Nat) ({ cls := "SerialPlant$Frame", name := "begin", desc := "(II)V" } : Jvm.MethodName)) ∈ lwG := lw_t 426 rfl rfl
set_option maxRecDepth 100000 in
theorem w_427 : (Jvm.Cond.instanceMethod ({ cls := "SerialPlant$Frame", name := "begin", desc := "(II)V" } : Jvm.MethodName)) ∈ lwG := lw_t 427 rfl rfl
set_option maxRecDepth 100000 in
theorem w_428 : (Jvm.Cond.selects "SerialPlant$Frame" ({ cls := "SerialPlant$Frame", name := "begin", desc := "(II)V" } : Jvm.MethodName) ({ cls := "SerialPlant$Frame", name := "begin", desc := "(II)V" } : Jvm.MethodName)) ∈ lwG := lw_t 428 rfl rfl
set_option maxRecDepth 100000 in
theorem w_430 : (Jvm.Cond.methodLink "SerialPlant$Frame" (19 : Nat) ({ cls := "SerialPlant$Frame", name := "addByte", desc := "(I)V" } : Jvm.MethodName)) ∈ lwG := lw_t 430 rfl rfl
set_option maxRecDepth 100000 in
theorem w_431 : (Jvm.Cond.instanceMethod ({ cls := "SerialPlant$Frame", name := "addByte", desc := "(I)V" } : Jvm.MethodName)) ∈ lwG := lw_t 431 rfl rfl
set_option maxRecDepth 100000 in
theorem w_432 : (Jvm.Cond.selects "SerialPlant$Frame" ({ cls := "SerialPlant$Frame", name := "addByte", desc := "(I)V" } : Jvm.MethodName) ({ cls := "SerialPlant$Frame", name := "addByte", desc := "(I)V" } : Jvm.MethodName)) ∈ lwG := lw_t 432 rfl rfl
set_option maxRecDepth 100000 in
theorem w_434 : (Jvm.Cond.methodLink "SerialPlant$Job" (51 : Nat) ({ cls := "SerialPlant$Frame", name := "addWord", desc := "(I)V" } : Jvm.MethodName)) ∈ lwG := lw_t 434 rfl rfl
set_option maxRecDepth 100000 in
theorem w_435 : (Jvm.Cond.instanceMethod ({ cls := "SerialPlant$Frame", name := "addWord", desc := "(I)V" } : Jvm.MethodName)) ∈ lwG := lw_t 435 rfl rfl
set_option maxRecDepth 100000 in
theorem w_436 : (Jvm.Cond.selects "SerialPlant$Frame" ({ cls := "SerialPlant$Frame", name := "addWord", desc := "(I)V" } : Jvm.MethodName) ({ cls := "SerialPlant$Frame", name := "addWord", desc := "(I)V" } : Jvm.MethodName)) ∈ lwG := lw_t 436 rfl rfl
set_option maxRecDepth 100000 in
theorem w_438 : (Jvm.Cond.methodLink "SerialPlant$Job" (36 : Nat) ({ cls := "SerialPlant$Job", name := "word", desc := "(I)I" } : Jvm.MethodName)) ∈ lwG := lw_t 438 rfl rfl
set_option maxRecDepth 100000 in
theorem w_439 : (Jvm.Cond.instanceMethod ({ cls := "SerialPlant$Job", name := "word", desc := "(I)I" } : Jvm.MethodName)) ∈ lwG := lw_t 439 rfl rfl
set_option maxRecDepth 100000 in
theorem w_440 : (Jvm.Cond.sameMethod "SerialPlant$Job" "SerialPlant$Job" "word" "(I)I") ∈ lwG := lw_t 440 rfl rfl
set_option maxRecDepth 100000 in
theorem w_441 : (Jvm.Cond.selects "SerialPlant$Poll" ({ cls := "SerialPlant$Job", name := "word", desc := "(I)I" } : Jvm.MethodName) ({ cls := "SerialPlant$Job", name := "word", desc := "(I)I" } : Jvm.MethodName)) ∈ lwG := lw_t 441 rfl rfl
set_option maxRecDepth 100000 in
theorem w_442 : (Jvm.Cond.selects "SerialPlant$Request" ({ cls := "SerialPlant$Job", name := "word", desc := "(I)I" } : Jvm.MethodName) ({ cls := "SerialPlant$Job", name := "word", desc := "(I)I" } : Jvm.MethodName)) ∈ lwG := lw_t 442 rfl rfl
set_option maxRecDepth 100000 in
theorem w_444 : (Jvm.Cond.constant "SerialPlant$Job" (31 : Nat) (65535 : Int32)) ∈ lwG := lw_t 444 rfl rfl
set_option maxRecDepth 100000 in
theorem w_445 : (Jvm.Cond.methodLink "SerialPlant$Job" (55 : Nat) ({ cls := "SerialPlant$Job", name := "addBits", desc := "(LSerialPlant$Frame;)V" } : Jvm.MethodName)) ∈ lwG := lw_t 445 rfl rfl
set_option maxRecDepth 100000 in
theorem w_446 : (Jvm.Cond.instanceMethod ({ cls := "SerialPlant$Job", name := "addBits", desc := "(LSerialPlant$Frame;)V" } : Jvm.MethodName)) ∈ lwG := lw_t 446 rfl rfl
set_option maxRecDepth 100000 in
theorem w_447 : (Jvm.Cond.sameMethod "SerialPlant$Job" "SerialPlant$Job" "addBits" "(LSerialPlant$Frame;)V") ∈ lwG := lw_t 447 rfl rfl
set_option maxRecDepth 100000 in
theorem w_448 : (Jvm.Cond.selects "SerialPlant$Poll" ({ cls := "SerialPlant$Job", name := "addBits", desc := "(LSerialPlant$Frame;)V" } : Jvm.MethodName) ({ cls := "SerialPlant$Job", name := "addBits", desc := "(LSerialPlant$Frame;)V" } : Jvm.MethodName)) ∈ lwG := lw_t 448 rfl rfl
set_option maxRecDepth 100000 in
theorem w_449 : (Jvm.Cond.selects "SerialPlant$Request" ({ cls := "SerialPlant$Job", name := "addBits", desc := "(LSerialPlant$Frame;)V" } : Jvm.MethodName) ({ cls := "SerialPlant$Job", name := "addBits", desc := "(LSerialPlant$Frame;)V" } : Jvm.MethodName)) ∈ lwG := lw_t 449 rfl rfl
set_option maxRecDepth 100000 in
theorem w_451 : (Jvm.Cond.methodLink "SerialPlant$Job" (65 : Nat) ({ cls := "SerialPlant$Job", name := "bitBytes", desc := "()I" } : Jvm.MethodName)) ∈ lwG := lw_t 451 rfl rfl
set_option maxRecDepth 100000 in
theorem w_452 : (Jvm.Cond.methodLink "SerialPlant$Job" (69 : Nat) ({ cls := "SerialPlant$Frame", name := "addByte", desc := "(I)V" } : Jvm.MethodName)) ∈ lwG := lw_t 452 rfl rfl
set_option maxRecDepth 100000 in
theorem w_453 : (Jvm.Cond.methodLink "SerialPlant$Job" (59 : Nat) ({ cls := "SerialPlant$Job", name := "addWords", desc := "(LSerialPlant$Frame;)V" } : Jvm.MethodName)) ∈ lwG := lw_t 453 rfl rfl
set_option maxRecDepth 100000 in
theorem w_454 : (Jvm.Cond.instanceMethod ({ cls := "SerialPlant$Job", name := "addWords", desc := "(LSerialPlant$Frame;)V" } : Jvm.MethodName)) ∈ lwG := lw_t 454 rfl rfl
set_option maxRecDepth 100000 in
theorem w_455 : (Jvm.Cond.sameMethod "SerialPlant$Job" "SerialPlant$Job" "addWords" "(LSerialPlant$Frame;)V") ∈ lwG := lw_t 455 rfl rfl
set_option maxRecDepth 100000 in
theorem w_456 : (Jvm.Cond.selects "SerialPlant$Poll" ({ cls := "SerialPlant$Job", name := "addWords", desc := "(LSerialPlant$Frame;)V" } : Jvm.MethodName) ({ cls := "SerialPlant$Job", name := "addWords", desc := "(LSerialPlant$Frame;)V" } : Jvm.MethodName)) ∈ lwG := lw_t 456 rfl rfl
set_option maxRecDepth 100000 in
theorem w_457 : (Jvm.Cond.selects "SerialPlant$Request" ({ cls := "SerialPlant$Job", name := "addWords", desc := "(LSerialPlant$Frame;)V" } : Jvm.MethodName) ({ cls := "SerialPlant$Job", name := "addWords", desc := "(LSerialPlant$Frame;)V" } : Jvm.MethodName)) ∈ lwG := lw_t 457 rfl rfl
set_option maxRecDepth 100000 in
theorem w_459 : (Jvm.Cond.methodLink "SerialPlant$Job" (62 : Nat) ({ cls := "SerialPlant$Frame", name := "addSum", desc := "()V" } : Jvm.MethodName)) ∈ lwG := lw_t 459 rfl rfl
set_option maxRecDepth 100000 in
theorem w_460 : (Jvm.Cond.instanceMethod ({ cls := "SerialPlant$Frame", name := "addSum", desc := "()V" } : Jvm.MethodName)) ∈ lwG := lw_t 460 rfl rfl
set_option maxRecDepth 100000 in
theorem w_461 : (Jvm.Cond.selects "SerialPlant$Frame" ({ cls := "SerialPlant$Frame", name := "addSum", desc := "()V" } : Jvm.MethodName) ({ cls := "SerialPlant$Frame", name := "addSum", desc := "()V" } : Jvm.MethodName)) ∈ lwG := lw_t 461 rfl rfl
set_option maxRecDepth 100000 in
theorem w_463 : (Jvm.Cond.constant "SerialPlant$Frame" (23 : Nat) (65535 : Int32)) ∈ lwG := lw_t 463 rfl rfl
set_option maxRecDepth 100000 in
theorem w_464 : (Jvm.Cond.constant "SerialPlant$Frame" (24 : Nat) (40961 : Int32)) ∈ lwG := lw_t 464 rfl rfl
set_option maxRecDepth 100000 in
theorem w_465 : (Jvm.Cond.methodLink "SerialPlant" (226 : Nat) ({ cls := "SerialPlant$Way", name := "spendFault", desc := "()Z" } : Jvm.MethodName)) ∈ lwG := lw_t 465 rfl rfl
set_option maxRecDepth 100000 in
theorem w_466 : (Jvm.Cond.instanceMethod ({ cls := "SerialPlant$Way", name := "spendFault", desc := "()Z" } : Jvm.MethodName)) ∈ lwG := lw_t 466 rfl rfl
set_option maxRecDepth 100000 in
theorem w_467 : (Jvm.Cond.selects "SerialPlant$Way" ({ cls := "SerialPlant$Way", name := "spendFault", desc := "()Z" } : Jvm.MethodName) ({ cls := "SerialPlant$Way", name := "spendFault", desc := "()Z" } : Jvm.MethodName)) ∈ lwG := lw_t 467 rfl rfl
set_option maxRecDepth 100000 in
theorem w_469 : (Jvm.Cond.methodLink "SerialPlant" (229 : Nat) ({ cls := "SerialPlant", name := "deliver", desc := "(LSerialPlant$Line;LSerialPlant$Job;)LSerialPlant$Slave;" } : Jvm.MethodName)) ∈ lwG := lw_t 469 rfl rfl
set_option maxRecDepth 100000 in
theorem w_471 : (Jvm.Cond.instanceMethod ({ cls := "SerialPlant", name := "deliver", desc := "(LSerialPlant$Line;LSerialPlant$Job;)LSerialPlant$Slave;" } : Jvm.MethodName)) ∈ lwG := lw_t 471 rfl rfl
set_option maxRecDepth 100000 in
theorem w_473 : (Jvm.Cond.methodLink "SerialPlant" (238 : Nat) ({ cls := "SerialPlant$Slave", name := "isMeantBy", desc := "(LSerialPlant$Job;)Z" } : Jvm.MethodName)) ∈ lwG := lw_t 473 rfl rfl
set_option maxRecDepth 100000 in
theorem w_474 : (Jvm.Cond.instanceMethod ({ cls := "SerialPlant$Slave", name := "isMeantBy", desc := "(LSerialPlant$Job;)Z" } : Jvm.MethodName)) ∈ lwG := lw_t 474 rfl rfl
set_option maxRecDepth 100000 in
theorem w_475 : (Jvm.Cond.selects "SerialPlant$Slave" ({ cls := "SerialPlant$Slave", name := "isMeantBy", desc := "(LSerialPlant$Job;)Z" } : Jvm.MethodName) ({ cls := "SerialPlant$Slave", name := "isMeantBy", desc := "(LSerialPlant$Job;)Z" } : Jvm.MethodName)) ∈ lwG := lw_t 475 rfl rfl
set_option maxRecDepth 100000 in
theorem w_477 : (Jvm.Cond.methodLink "SerialPlant$Slave" (35 : Nat) ({ cls := "SerialPlant$Job", name := "isBroadcast", desc := "()Z" } : Jvm.MethodName)) ∈ lwG := lw_t 477 rfl rfl
set_option maxRecDepth 100000 in
theorem w_478 : (Jvm.Cond.methodLink "SerialPlant" (241 : Nat) ({ cls := "SerialPlant$Slave", name := "obey", desc := "(LSerialPlant$Job;)Z" } : Jvm.MethodName)) ∈ lwG := lw_t 478 rfl rfl
set_option maxRecDepth 100000 in
theorem w_479 : (Jvm.Cond.instanceMethod ({ cls := "SerialPlant$Slave", name := "obey", desc := "(LSerialPlant$Job;)Z" } : Jvm.MethodName)) ∈ lwG := lw_t 479 rfl rfl
set_option maxRecDepth 100000 in
theorem w_480 : (Jvm.Cond.selects "SerialPlant$Slave" ({ cls := "SerialPlant$Slave", name := "obey", desc := "(LSerialPlant$Job;)Z" } : Jvm.MethodName) ({ cls := "SerialPlant$Slave", name := "obey", desc := "(LSerialPlant$Job;)Z" } : Jvm.MethodName)) ∈ lwG := lw_t 480 rfl rfl
set_option maxRecDepth 100000 in
theorem w_482 : (Jvm.Cond.methodLink "SerialPlant$Slave" (50 : Nat) ({ cls := "SerialPlant$Job", name := "refusal", desc := "()I" } : Jvm.MethodName)) ∈ lwG := lw_t 482 rfl rfl
set_option maxRecDepth 100000 in
theorem w_483 : (Jvm.Cond.instanceMethod ({ cls := "SerialPlant$Job", name := "refusal", desc := "()I" } : Jvm.MethodName)) ∈ lwG := lw_t 483 rfl rfl
set_option maxRecDepth 100000 in
theorem w_484 : (Jvm.Cond.sameMethod "SerialPlant$Job" "SerialPlant$Job" "refusal" "()I") ∈ lwG := lw_t 484 rfl rfl
set_option maxRecDepth 100000 in
theorem w_485 : (Jvm.Cond.selects "SerialPlant$Poll" ({ cls := "SerialPlant$Job", name := "refusal", desc := "()I" } : Jvm.MethodName) ({ cls := "SerialPlant$Job", name := "refusal", desc := "()I" } : Jvm.MethodName)) ∈ lwG := lw_t 485 rfl rfl
set_option maxRecDepth 100000 in
theorem w_486 : (Jvm.Cond.selects "SerialPlant$Request" ({ cls := "SerialPlant$Job", name := "refusal", desc := "()I" } : Jvm.MethodName) ({ cls := "SerialPlant$Job", name := "refusal", desc := "()I" } : Jvm.MethodName)) ∈ lwG := lw_t 486 rfl rfl
set_option maxRecDepth 100000 in
theorem w_488 : (Jvm.Cond.methodLink "SerialPlant$Job" (32 : Nat) ({ cls := "SerialPlant$Job", name := "spanRefusal", desc := "(II)I" } : Jvm.MethodName)) ∈ lwG := lw_t 488 rfl rfl
set_option maxRecDepth 100000 in
theorem w_489 : (Jvm.Cond.instanceMethod ({ cls := "SerialPlant$Job", name := "spanRefusal", desc := "(II)I" } : Jvm.MethodName)) ∈ lwG := lw_t 489 rfl rfl
set_option maxRecDepth 100000 in
theorem w_490 : (Jvm.Cond.sameMethod "SerialPlant$Job" "SerialPlant$Job" "spanRefusal" "(II)I") ∈ lwG := lw_t 490 rfl rfl
set_option maxRecDepth 100000 in
theorem w_491 : (Jvm.Cond.selects "SerialPlant$Poll" ({ cls := "SerialPlant$Job", name := "spanRefusal", desc := "(II)I" } : Jvm.MethodName) ({ cls := "SerialPlant$Job", name := "spanRefusal", desc := "(II)I" } : Jvm.MethodName)) ∈ lwG := lw_t 491 rfl rfl
set_option maxRecDepth 100000 in
theorem w_492 : (Jvm.Cond.selects "SerialPlant$Request" ({ cls := "SerialPlant$Job", name := "spanRefusal", desc := "(II)I" } : Jvm.MethodName) ({ cls := "SerialPlant$Job", name := "spanRefusal", desc := "(II)I" } : Jvm.MethodName)) ∈ lwG := lw_t 492 rfl rfl
set_option maxRecDepth 100000 in
theorem w_494 : (Jvm.Cond.constant "SerialPlant$Job" (40 : Nat) (65280 : Int32)) ∈ lwG := lw_t 494 rfl rfl
set_option maxRecDepth 100000 in
theorem w_495 : (Jvm.Cond.methodLink "SerialPlant$Job" (41 : Nat) ({ cls := "SerialPlant$Job", name := "isKnownKind", desc := "()Z" } : Jvm.MethodName)) ∈ lwG := lw_t 495 rfl rfl
set_option maxRecDepth 100000 in
theorem w_496 : (Jvm.Cond.instanceMethod ({ cls := "SerialPlant$Job", name := "isKnownKind", desc := "()Z" } : Jvm.MethodName)) ∈ lwG := lw_t 496 rfl rfl
set_option maxRecDepth 100000 in
theorem w_497 : (Jvm.Cond.sameMethod "SerialPlant$Job" "SerialPlant$Job" "isKnownKind" "()Z") ∈ lwG := lw_t 497 rfl rfl
set_option maxRecDepth 100000 in
theorem w_498 : (Jvm.Cond.selects "SerialPlant$Poll" ({ cls := "SerialPlant$Job", name := "isKnownKind", desc := "()Z" } : Jvm.MethodName) ({ cls := "SerialPlant$Job", name := "isKnownKind", desc := "()Z" } : Jvm.MethodName)) ∈ lwG := lw_t 498 rfl rfl
set_option maxRecDepth 100000 in
theorem w_499 : (Jvm.Cond.selects "SerialPlant$Request" ({ cls := "SerialPlant$Job", name := "isKnownKind", desc := "()Z" } : Jvm.MethodName) ({ cls := "SerialPlant$Job", name := "isKnownKind", desc := "()Z" } : Jvm.MethodName)) ∈ lwG := lw_t 499 rfl rfl
set_option maxRecDepth 100000 in
theorem w_501 : (Jvm.Cond.methodLink "SerialPlant$Slave" (54 : Nat) ({ cls := "SerialPlant$Slave", name := "carryOut", desc := "(LSerialPlant$Job;)V" } : Jvm.MethodName)) ∈ lwG := lw_t 501 rfl rfl
set_option maxRecDepth 100000 in
theorem w_502 : (Jvm.Cond.instanceMethod ({ cls := "SerialPlant$Slave", name := "carryOut", desc := "(LSerialPlant$Job;)V" } : Jvm.MethodName)) ∈ lwG := lw_t 502 rfl rfl
set_option maxRecDepth 100000 in
theorem w_503 : (Jvm.Cond.selects "SerialPlant$Slave" ({ cls := "SerialPlant$Slave", name := "carryOut", desc := "(LSerialPlant$Job;)V" } : Jvm.MethodName) ({ cls := "SerialPlant$Slave", name := "carryOut", desc := "(LSerialPlant$Job;)V" } : Jvm.MethodName)) ∈ lwG := lw_t 503 rfl rfl
set_option maxRecDepth 100000 in
theorem w_505 : (Jvm.Cond.methodLink "SerialPlant$Slave" (61 : Nat) ({ cls := "SerialPlant$Job", name := "word", desc := "(I)I" } : Jvm.MethodName)) ∈ lwG := lw_t 505 rfl rfl
set_option maxRecDepth 100000 in
theorem w_506 : (Jvm.Cond.constant "SerialPlant$Slave" (65 : Nat) (65280 : Int32)) ∈ lwG := lw_t 506 rfl rfl
set_option maxRecDepth 100000 in
theorem w_507 : (Jvm.Cond.methodLink "SerialPlant$Slave" (66 : Nat) ({ cls := "SerialPlant$Slave", name := "put", desc := "([III)V" } : Jvm.MethodName)) ∈ lwG := lw_t 507 rfl rfl
set_option maxRecDepth 100000 in
theorem w_508 : (Jvm.Cond.static ({ cls := "SerialPlant$Slave", name := "put", desc := "([III)V" } : Jvm.MethodName)) ∈ lwG := lw_t 508 rfl rfl
set_option maxRecDepth 100000 in
theorem w_510 : (Jvm.Cond.methodLink "SerialPlant$Slave" (70 : Nat) ({ cls := "SerialPlant$Slave", name := "get", desc := "([II)I" } : Jvm.MethodName)) ∈ lwG := lw_t 510 rfl rfl
set_option maxRecDepth 100000 in
theorem w_511 : (Jvm.Cond.static ({ cls := "SerialPlant$Slave", name := "get", desc := "([II)I" } : Jvm.MethodName)) ∈ lwG := lw_t 511 rfl rfl
set_option maxRecDepth 100000 in
theorem w_513 : (Jvm.Cond.methodLink "SerialPlant$Slave" (74 : Nat) ({ cls := "SerialPlant$Slave", name := "masked", desc := "(III)I" } : Jvm.MethodName)) ∈ lwG := lw_t 513 rfl rfl
set_option maxRecDepth 100000 in
theorem w_514 : (Jvm.Cond.static ({ cls := "SerialPlant$Slave", name := "masked", desc := "(III)I" } : Jvm.MethodName)) ∈ lwG := lw_t 514 rfl rfl
set_option maxRecDepth 100000 in
theorem w_516 : (Jvm.Cond.methodLink "SerialPlant$Slave" (81 : Nat) ({ cls := "SerialPlant$Job", name := "bit", desc := "(I)I" } : Jvm.MethodName)) ∈ lwG := lw_t 516 rfl rfl
set_option maxRecDepth 100000 in
theorem w_517 : (Jvm.Cond.instanceMethod ({ cls := "SerialPlant$Job", name := "bit", desc := "(I)I" } : Jvm.MethodName)) ∈ lwG := lw_t 517 rfl rfl
set_option maxRecDepth 100000 in
theorem w_518 : (Jvm.Cond.sameMethod "SerialPlant$Job" "SerialPlant$Job" "bit" "(I)I") ∈ lwG := lw_t 518 rfl rfl
set_option maxRecDepth 100000 in
theorem w_519 : (Jvm.Cond.selects "SerialPlant$Poll" ({ cls := "SerialPlant$Job", name := "bit", desc := "(I)I" } : Jvm.MethodName) ({ cls := "SerialPlant$Job", name := "bit", desc := "(I)I" } : Jvm.MethodName)) ∈ lwG := lw_t 519 rfl rfl
set_option maxRecDepth 100000 in
theorem w_520 : (Jvm.Cond.selects "SerialPlant$Request" ({ cls := "SerialPlant$Job", name := "bit", desc := "(I)I" } : Jvm.MethodName) ({ cls := "SerialPlant$Job", name := "bit", desc := "(I)I" } : Jvm.MethodName)) ∈ lwG := lw_t 520 rfl rfl
set_option maxRecDepth 100000 in
theorem w_522 : (Jvm.Cond.methodLink "SerialPlant$Slave" (84 : Nat) ({ cls := "SerialPlant$Slave", name := "changeMode", desc := "(I)V" } : Jvm.MethodName)) ∈ lwG := lw_t 522 rfl rfl
set_option maxRecDepth 100000 in
theorem w_523 : (Jvm.Cond.instanceMethod ({ cls := "SerialPlant$Slave", name := "changeMode", desc := "(I)V" } : Jvm.MethodName)) ∈ lwG := lw_t 523 rfl rfl
set_option maxRecDepth 100000 in
theorem w_524 : (Jvm.Cond.selects "SerialPlant$Slave" ({ cls := "SerialPlant$Slave", name := "changeMode", desc := "(I)V" } : Jvm.MethodName) ({ cls := "SerialPlant$Slave", name := "changeMode", desc := "(I)V" } : Jvm.MethodName)) ∈ lwG := lw_t 524 rfl rfl
set_option maxRecDepth 100000 in
theorem w_526 : (Jvm.Cond.methodLink "SerialPlant" (233 : Nat) ({ cls := "SerialPlant$Slave", name := "writeAnswer", desc := "(LSerialPlant$Job;LSerialPlant$Frame;LSerialPlant$Frame;)V" } : Jvm.MethodName)) ∈ lwG := lw_t 526 rfl rfl
set_option maxRecDepth 100000 in
theorem w_527 : (Jvm.Cond.instanceMethod ({ cls := "SerialPlant$Slave", name := "writeAnswer", desc := "(LSerialPlant$Job;LSerialPlant$Frame;LSerialPlant$Frame;)V" } : Jvm.MethodName)) ∈ lwG := lw_t 527 rfl rfl
set_option maxRecDepth 100000 in
theorem w_528 : (Jvm.Cond.selects "SerialPlant$Slave" ({ cls := "SerialPlant$Slave", name := "writeAnswer", desc := "(LSerialPlant$Job;LSerialPlant$Frame;LSerialPlant$Frame;)V" } : Jvm.MethodName) ({ cls := "SerialPlant$Slave", name := "writeAnswer", desc := "(LSerialPlant$Job;LSerialPlant$Frame;LSerialPlant$Frame;)V" } : Jvm.MethodName)) ∈ lwG := lw_t 528 rfl rfl
set_option maxRecDepth 100000 in
theorem w_530 : (Jvm.Cond.methodLink "SerialPlant$Slave" (88 : Nat) ({ cls := "SerialPlant$Frame", name := "begin", desc := "(II)V" } : Jvm.MethodName)) ∈ lwG := lw_t 530 rfl rfl
set_option maxRecDepth 100000 in
theorem w_531 : (Jvm.Cond.methodLink "SerialPlant$Slave" (94 : Nat) ({ cls := "SerialPlant$Frame", name := "addByte", desc := "(I)V" } : Jvm.MethodName)) ∈ lwG := lw_t 531 rfl rfl
set_option maxRecDepth 100000 in
theorem w_532 : (Jvm.Cond.methodLink "SerialPlant$Slave" (97 : Nat) ({ cls := "SerialPlant$Frame", name := "addSum", desc := "()V" } : Jvm.MethodName)) ∈ lwG := lw_t 532 rfl rfl
set_option maxRecDepth 100000 in
theorem w_533 : (Jvm.Cond.methodLink "SerialPlant$Slave" (100 : Nat) ({ cls := "SerialPlant$Slave", name := "writeBits", desc := "(LSerialPlant$Job;LSerialPlant$Frame;)V" } : Jvm.MethodName)) ∈ lwG := lw_t 533 rfl rfl
set_option maxRecDepth 100000 in
theorem w_534 : (Jvm.Cond.instanceMethod ({ cls := "SerialPlant$Slave", name := "writeBits", desc := "(LSerialPlant$Job;LSerialPlant$Frame;)V" } : Jvm.MethodName)) ∈ lwG := lw_t 534 rfl rfl
set_option maxRecDepth 100000 in
theorem w_535 : (Jvm.Cond.selects "SerialPlant$Slave" ({ cls := "SerialPlant$Slave", name := "writeBits", desc := "(LSerialPlant$Job;LSerialPlant$Frame;)V" } : Jvm.MethodName) ({ cls := "SerialPlant$Slave", name := "writeBits", desc := "(LSerialPlant$Job;LSerialPlant$Frame;)V" } : Jvm.MethodName)) ∈ lwG := lw_t 535 rfl rfl
set_option maxRecDepth 100000 in
theorem w_537 : (Jvm.Cond.methodLink "SerialPlant$Slave" (114 : Nat) ({ cls := "SerialPlant$Slave", name := "tableOf", desc := "(I)[I" } : Jvm.MethodName)) ∈ lwG := lw_t 537 rfl rfl
set_option maxRecDepth 100000 in
theorem w_538 : (Jvm.Cond.methodLink "SerialPlant$Slave" (118 : Nat) ({ cls := "SerialPlant$Job", name := "bitBytes", desc := "()I" } : Jvm.MethodName)) ∈ lwG := lw_t 538 rfl rfl
set_option maxRecDepth 100000 in
theorem w_539 : (Jvm.Cond.methodLink "SerialPlant$Slave" (104 : Nat) ({ cls := "SerialPlant$Slave", name := "writeWords", desc := "(LSerialPlant$Job;LSerialPlant$Frame;)V" } : Jvm.MethodName)) ∈ lwG := lw_t 539 rfl rfl
set_option maxRecDepth 100000 in
theorem w_540 : (Jvm.Cond.instanceMethod ({ cls := "SerialPlant$Slave", name := "writeWords", desc := "(LSerialPlant$Job;LSerialPlant$Frame;)V" } : Jvm.MethodName)) ∈ lwG := lw_t 540 rfl rfl
set_option maxRecDepth 100000 in
theorem w_541 : (Jvm.Cond.selects "SerialPlant$Slave" ({ cls := "SerialPlant$Slave", name := "writeWords", desc := "(LSerialPlant$Job;LSerialPlant$Frame;)V" } : Jvm.MethodName) ({ cls := "SerialPlant$Slave", name := "writeWords", desc := "(LSerialPlant$Job;LSerialPlant$Frame;)V" } : Jvm.MethodName)) ∈ lwG := lw_t 541 rfl rfl
set_option maxRecDepth 100000 in
theorem w_543 : (Jvm.Cond.methodLink "SerialPlant$Slave" (107 : Nat) ({ cls := "SerialPlant$Frame", name := "addWord", desc := "(I)V" } : Jvm.MethodName)) ∈ lwG := lw_t 543 rfl rfl
set_option maxRecDepth 100000 in
theorem w_544 : (Jvm.Cond.methodLink "SerialPlant$Slave" (110 : Nat) ({ cls := "SerialPlant$Frame", name := "copyFrom", desc := "(LSerialPlant$Frame;)V" } : Jvm.MethodName)) ∈ lwG := lw_t 544 rfl rfl
set_option maxRecDepth 100000 in
theorem w_545 : (Jvm.Cond.instanceMethod ({ cls := "SerialPlant$Frame", name := "copyFrom", desc := "(LSerialPlant$Frame;)V" } : Jvm.MethodName)) ∈ lwG := lw_t 545 rfl rfl
set_option maxRecDepth 100000 in
theorem w_546 : (Jvm.Cond.selects "SerialPlant$Frame" ({ cls := "SerialPlant$Frame", name := "copyFrom", desc := "(LSerialPlant$Frame;)V" } : Jvm.MethodName) ({ cls := "SerialPlant$Frame", name := "copyFrom", desc := "(LSerialPlant$Frame;)V" } : Jvm.MethodName)) ∈ lwG := lw_t 546 rfl rfl
set_option maxRecDepth 100000 in
theorem w_548 : (Jvm.Cond.methodLink "SerialPlant" (197 : Nat) ({ cls := "SerialPlant$Line", name := "giveUp", desc := "()V" } : Jvm.MethodName)) ∈ lwG := lw_t 548 rfl rfl
set_option maxRecDepth 100000 in
theorem w_549 : (Jvm.Cond.instanceMethod ({ cls := "SerialPlant$Line", name := "giveUp", desc := "()V" } : Jvm.MethodName)) ∈ lwG := lw_t 549 rfl rfl
set_option maxRecDepth 100000 in
theorem w_550 : (Jvm.Cond.selects "SerialPlant$Line" ({ cls := "SerialPlant$Line", name := "giveUp", desc := "()V" } : Jvm.MethodName) ({ cls := "SerialPlant$Line", name := "giveUp", desc := "()V" } : Jvm.MethodName)) ∈ lwG := lw_t 550 rfl rfl
set_option maxRecDepth 100000 in
theorem w_552 : (Jvm.Cond.methodLink "SerialPlant$Line" (51 : Nat) ({ cls := "SerialPlant$Line", name := "release", desc := "()V" } : Jvm.MethodName)) ∈ lwG := lw_t 552 rfl rfl
set_option maxRecDepth 100000 in
theorem w_553 : (Jvm.Cond.methodLink "SerialPlant$Line" (54 : Nat) ({ cls := "SerialPlant$Job", name := "goUnanswered", desc := "()V" } : Jvm.MethodName)) ∈ lwG := lw_t 553 rfl rfl
set_option maxRecDepth 100000 in
theorem w_555 : (Jvm.Cond.sameMethod "SerialPlant$Job" "SerialPlant$Job" "goUnanswered" "()V") ∈ lwG := lw_t 555 rfl rfl
set_option maxRecDepth 100000 in
theorem w_556 : (Jvm.Cond.selects "SerialPlant$Poll" ({ cls := "SerialPlant$Job", name := "goUnanswered", desc := "()V" } : Jvm.MethodName) ({ cls := "SerialPlant$Poll", name := "goUnanswered", desc := "()V" } : Jvm.MethodName)) ∈ lwG := lw_t 556 rfl rfl
set_option maxRecDepth 100000 in
theorem w_557 : (Jvm.Cond.instanceMethod ({ cls := "SerialPlant$Poll", name := "goUnanswered", desc := "()V" } : Jvm.MethodName)) ∈ lwG := lw_t 557 rfl rfl
set_option maxRecDepth 100000 in
theorem w_559 : (Jvm.Cond.selects "SerialPlant$Request" ({ cls := "SerialPlant$Job", name := "goUnanswered", desc := "()V" } : Jvm.MethodName) ({ cls := "SerialPlant$Request", name := "goUnanswered", desc := "()V" } : Jvm.MethodName)) ∈ lwG := lw_t 559 rfl rfl
set_option maxRecDepth 100000 in
theorem w_560 : (Jvm.Cond.instanceMethod ({ cls := "SerialPlant$Request", name := "goUnanswered", desc := "()V" } : Jvm.MethodName)) ∈ lwG := lw_t 560 rfl rfl
set_option maxRecDepth 100000 in
theorem w_562 : (Jvm.Cond.methodLink "SerialPlant" (200 : Nat) ({ cls := "SerialPlant$Line", name := "startNext", desc := "()Z" } : Jvm.MethodName)) ∈ lwG := lw_t 562 rfl rfl
set_option maxRecDepth 100000 in
theorem w_563 : (Jvm.Cond.instanceMethod ({ cls := "SerialPlant$Line", name := "startNext", desc := "()Z" } : Jvm.MethodName)) ∈ lwG := lw_t 563 rfl rfl
set_option maxRecDepth 100000 in
theorem w_564 : (Jvm.Cond.selects "SerialPlant$Line" ({ cls := "SerialPlant$Line", name := "startNext", desc := "()Z" } : Jvm.MethodName) ({ cls := "SerialPlant$Line", name := "startNext", desc := "()Z" } : Jvm.MethodName)) ∈ lwG := lw_t 564 rfl rfl
set_option maxRecDepth 100000 in
theorem w_566 : (Jvm.Cond.methodLink "SerialPlantLaw" (54 : Nat) ({ cls := "SerialPlant", name := "reply", desc := "(II)J" } : Jvm.MethodName)) ∈ lwG := lw_t 566 rfl rfl
set_option maxRecDepth 100000 in
theorem w_567 : (Jvm.Cond.instanceMethod ({ cls := "SerialPlant", name := "reply", desc := "(II)J" } : Jvm.MethodName)) ∈ lwG := lw_t 567 rfl rfl
set_option maxRecDepth 100000 in
theorem w_568 : (Jvm.Cond.selects "SerialPlant" ({ cls := "SerialPlant", name := "reply", desc := "(II)J" } : Jvm.MethodName) ({ cls := "SerialPlant", name := "reply", desc := "(II)J" } : Jvm.MethodName)) ∈ lwG := lw_t 568 rfl rfl
set_option maxRecDepth 100000 in
theorem w_570 : (Jvm.Cond.constantLong "SerialPlant" (117 : Nat) (-1 : Int64)) ∈ lwG := lw_t 570 rfl rfl
set_option maxRecDepth 100000 in
theorem w_571 : (Jvm.Cond.methodLink "SerialPlantLaw" (59 : Nat) ({ cls := "SerialPlant", name := "line", desc := "(II)I" } : Jvm.MethodName)) ∈ lwG := lw_t 571 rfl rfl
set_option maxRecDepth 100000 in
theorem w_572 : (Jvm.Cond.instanceMethod ({ cls := "SerialPlant", name := "line", desc := "(II)I" } : Jvm.MethodName)) ∈ lwG := lw_t 572 rfl rfl
set_option maxRecDepth 100000 in
theorem w_573 : (Jvm.Cond.selects "SerialPlant" ({ cls := "SerialPlant", name := "line", desc := "(II)I" } : Jvm.MethodName) ({ cls := "SerialPlant", name := "line", desc := "(II)I" } : Jvm.MethodName)) ∈ lwG := lw_t 573 rfl rfl
set_option maxRecDepth 100000 in
theorem w_575 : (Jvm.Cond.methodLink "SerialPlantLaw" (64 : Nat) ({ cls := "SerialPlant", name := "wire", desc := "(IZI)I" } : Jvm.MethodName)) ∈ lwG := lw_t 575 rfl rfl
set_option maxRecDepth 100000 in
theorem w_576 : (Jvm.Cond.instanceMethod ({ cls := "SerialPlant", name := "wire", desc := "(IZI)I" } : Jvm.MethodName)) ∈ lwG := lw_t 576 rfl rfl
set_option maxRecDepth 100000 in
theorem w_577 : (Jvm.Cond.selects "SerialPlant" ({ cls := "SerialPlant", name := "wire", desc := "(IZI)I" } : Jvm.MethodName) ({ cls := "SerialPlant", name := "wire", desc := "(IZI)I" } : Jvm.MethodName)) ∈ lwG := lw_t 577 rfl rfl
set_option maxRecDepth 100000 in
theorem w_579 : (Jvm.Cond.methodLink "SerialPlant" (153 : Nat) ({ cls := "SerialPlant$Frame", name := "byteAt", desc := "(I)I" } : Jvm.MethodName)) ∈ lwG := lw_t 579 rfl rfl
set_option maxRecDepth 100000 in
theorem w_580 : (Jvm.Cond.methodLink "SerialPlantLaw" (69 : Nat) ({ cls := "SerialPlant", name := "sample", desc := "(II)I" } : Jvm.MethodName)) ∈ lwG := lw_t 580 rfl rfl
set_option maxRecDepth 100000 in
theorem w_581 : (Jvm.Cond.instanceMethod ({ cls := "SerialPlant", name := "sample", desc := "(II)I" } : Jvm.MethodName)) ∈ lwG := lw_t 581 rfl rfl
set_option maxRecDepth 100000 in
theorem w_582 : (Jvm.Cond.selects "SerialPlant" ({ cls := "SerialPlant", name := "sample", desc := "(II)I" } : Jvm.MethodName) ({ cls := "SerialPlant", name := "sample", desc := "(II)I" } : Jvm.MethodName)) ∈ lwG := lw_t 582 rfl rfl
set_option maxRecDepth 100000 in
theorem w_584 : (Jvm.Cond.methodLink "SerialPlant" (157 : Nat) ({ cls := "SerialPlant$History", name := "part", desc := "(II)I" } : Jvm.MethodName)) ∈ lwG := lw_t 584 rfl rfl
set_option maxRecDepth 100000 in
theorem w_585 : (Jvm.Cond.instanceMethod ({ cls := "SerialPlant$History", name := "part", desc := "(II)I" } : Jvm.MethodName)) ∈ lwG := lw_t 585 rfl rfl
set_option maxRecDepth 100000 in
theorem w_586 : (Jvm.Cond.selects "SerialPlant$History" ({ cls := "SerialPlant$History", name := "part", desc := "(II)I" } : Jvm.MethodName) ({ cls := "SerialPlant$History", name := "part", desc := "(II)I" } : Jvm.MethodName)) ∈ lwG := lw_t 586 rfl rfl
set_option maxRecDepth 100000 in
theorem w_588 : (Jvm.Cond.methodLink "SerialPlantLaw" (73 : Nat) ({ cls := "SerialPlant", name := "samples", desc := "(III)I" } : Jvm.MethodName)) ∈ lwG := lw_t 588 rfl rfl
set_option maxRecDepth 100000 in
theorem w_589 : (Jvm.Cond.instanceMethod ({ cls := "SerialPlant", name := "samples", desc := "(III)I" } : Jvm.MethodName)) ∈ lwG := lw_t 589 rfl rfl
set_option maxRecDepth 100000 in
theorem w_590 : (Jvm.Cond.selects "SerialPlant" ({ cls := "SerialPlant", name := "samples", desc := "(III)I" } : Jvm.MethodName) ({ cls := "SerialPlant", name := "samples", desc := "(III)I" } : Jvm.MethodName)) ∈ lwG := lw_t 590 rfl rfl
set_option maxRecDepth 100000 in
theorem w_592 : (Jvm.Cond.methodLink "SerialPlant" (161 : Nat) ({ cls := "SerialPlant$History", name := "countOf", desc := "(III)I" } : Jvm.MethodName)) ∈ lwG := lw_t 592 rfl rfl
set_option maxRecDepth 100000 in
theorem w_593 : (Jvm.Cond.instanceMethod ({ cls := "SerialPlant$History", name := "countOf", desc := "(III)I" } : Jvm.MethodName)) ∈ lwG := lw_t 593 rfl rfl
set_option maxRecDepth 100000 in
theorem w_594 : (Jvm.Cond.selects "SerialPlant$History" ({ cls := "SerialPlant$History", name := "countOf", desc := "(III)I" } : Jvm.MethodName) ({ cls := "SerialPlant$History", name := "countOf", desc := "(III)I" } : Jvm.MethodName)) ∈ lwG := lw_t 594 rfl rfl
set_option maxRecDepth 100000 in
theorem w_596 : (Jvm.Cond.classLink "SerialPlantLaw" (10 : Nat) "SerialPlantModel") ∈ lwG := lw_t 596 rfl rfl
set_option maxRecDepth 100000 in
theorem w_597 : (Jvm.Cond.instantiable "SerialPlantModel" (41 : Nat)) ∈ lwG := lw_t 597 rfl rfl
set_option maxRecDepth 100000 in
theorem w_598 : (Jvm.Cond.methodLink "SerialPlantLaw" (12 : Nat) ({ cls := "SerialPlantModel", name := "<init>", desc := "()V" } : Jvm.MethodName)) ∈ lwG := lw_t 598 rfl rfl
set_option maxRecDepth 100000 in
theorem w_599 : (Jvm.Cond.instanceMethod ({ cls := "SerialPlantModel", name := "<init>", desc := "()V" } : Jvm.MethodName)) ∈ lwG := lw_t 599 rfl rfl
set_option maxRecDepth 100000 in
theorem w_601 : (Jvm.Cond.methodLink "SerialPlantModel" (1 : Nat) ({ cls := "java/lang/Object", name := "<init>", desc := "()V" } : Jvm.MethodName)) ∈ lwG := lw_t 601 rfl rfl
set_option maxRecDepth 100000 in
theorem w_726 : (Jvm.Cond.arrayClass Jvm.ClassFile.FieldType.boolean) ∈ lwG := lw_t 726 rfl rfl
set_option maxRecDepth 100000 in
theorem w_727 : (Jvm.Cond.arrayClass Jvm.ClassFile.FieldType.long) ∈ lwG := lw_t 727 rfl rfl
set_option maxRecDepth 100000 in
theorem w_728 : (Jvm.Cond.methodLink "SerialPlantLaw" (17 : Nat) ({ cls := "SerialPlantModel", name := "attach", desc := "(III)Z" } : Jvm.MethodName)) ∈ lwG := lw_t 728 rfl rfl
set_option maxRecDepth 100000 in
theorem w_729 : (Jvm.Cond.instanceMethod ({ cls := "SerialPlantModel", name := "attach", desc := "(III)Z" } : Jvm.MethodName)) ∈ lwG := lw_t 729 rfl rfl
set_option maxRecDepth 100000 in
theorem w_730 : (Jvm.Cond.selects "SerialPlantModel" ({ cls := "SerialPlantModel", name := "attach", desc := "(III)Z" } : Jvm.MethodName) ({ cls := "SerialPlantModel", name := "attach", desc := "(III)Z" } : Jvm.MethodName)) ∈ lwG := lw_t 730 rfl rfl
set_option maxRecDepth 100000 in
theorem w_732 : (Jvm.Cond.methodLink "SerialPlantModel" (117 : Nat) ({ cls := "SerialPlantModel", name := "within", desc := "(III)Z" } : Jvm.MethodName)) ∈ lwG := lw_t 732 rfl rfl
set_option maxRecDepth 100000 in
theorem w_733 : (Jvm.Cond.static ({ cls := "SerialPlantModel", name := "within", desc := "(III)Z" } : Jvm.MethodName)) ∈ lwG := lw_t 733 rfl rfl
set_option maxRecDepth 100000 in
theorem w_735 : (Jvm.Cond.methodLink "SerialPlantLaw" (22 : Nat) ({ cls := "SerialPlantModel", name := "power", desc := "(IZ)Z" } : Jvm.MethodName)) ∈ lwG := lw_t 735 rfl rfl
set_option maxRecDepth 100000 in
theorem w_736 : (Jvm.Cond.instanceMethod ({ cls := "SerialPlantModel", name := "power", desc := "(IZ)Z" } : Jvm.MethodName)) ∈ lwG := lw_t 736 rfl rfl
set_option maxRecDepth 100000 in
theorem w_737 : (Jvm.Cond.selects "SerialPlantModel" ({ cls := "SerialPlantModel", name := "power", desc := "(IZ)Z" } : Jvm.MethodName) ({ cls := "SerialPlantModel", name := "power", desc := "(IZ)Z" } : Jvm.MethodName)) ∈ lwG := lw_t 737 rfl rfl
set_option maxRecDepth 100000 in
theorem w_739 : (Jvm.Cond.methodLink "SerialPlantLaw" (27 : Nat) ({ cls := "SerialPlantModel", name := "process", desc := "(IIII)Z" } : Jvm.MethodName)) ∈ lwG := lw_t 739 rfl rfl
set_option maxRecDepth 100000 in
theorem w_740 : (Jvm.Cond.instanceMethod ({ cls := "SerialPlantModel", name := "process", desc := "(IIII)Z" } : Jvm.MethodName)) ∈ lwG := lw_t 740 rfl rfl
set_option maxRecDepth 100000 in
theorem w_741 : (Jvm.Cond.selects "SerialPlantModel" ({ cls := "SerialPlantModel", name := "process", desc := "(IIII)Z" } : Jvm.MethodName) ({ cls := "SerialPlantModel", name := "process", desc := "(IIII)Z" } : Jvm.MethodName)) ∈ lwG := lw_t 741 rfl rfl
set_option maxRecDepth 100000 in
theorem w_743 : (Jvm.Cond.methodLink "SerialPlantModel" (121 : Nat) ({ cls := "SerialPlantModel", name := "place", desc := "(III)Z" } : Jvm.MethodName)) ∈ lwG := lw_t 743 rfl rfl
set_option maxRecDepth 100000 in
theorem w_744 : (Jvm.Cond.static ({ cls := "SerialPlantModel", name := "place", desc := "(III)Z" } : Jvm.MethodName)) ∈ lwG := lw_t 744 rfl rfl
set_option maxRecDepth 100000 in
theorem w_746 : (Jvm.Cond.constant "SerialPlantModel" (124 : Nat) (65535 : Int32)) ∈ lwG := lw_t 746 rfl rfl
set_option maxRecDepth 100000 in
theorem w_747 : (Jvm.Cond.methodLink "SerialPlantLaw" (32 : Nat) ({ cls := "SerialPlantModel", name := "cell", desc := "(III)I" } : Jvm.MethodName)) ∈ lwG := lw_t 747 rfl rfl
set_option maxRecDepth 100000 in
theorem w_748 : (Jvm.Cond.instanceMethod ({ cls := "SerialPlantModel", name := "cell", desc := "(III)I" } : Jvm.MethodName)) ∈ lwG := lw_t 748 rfl rfl
set_option maxRecDepth 100000 in
theorem w_749 : (Jvm.Cond.selects "SerialPlantModel" ({ cls := "SerialPlantModel", name := "cell", desc := "(III)I" } : Jvm.MethodName) ({ cls := "SerialPlantModel", name := "cell", desc := "(III)I" } : Jvm.MethodName)) ∈ lwG := lw_t 749 rfl rfl
set_option maxRecDepth 100000 in
theorem w_751 : (Jvm.Cond.methodLink "SerialPlantLaw" (36 : Nat) ({ cls := "SerialPlantModel", name := "point", desc := "(III)I" } : Jvm.MethodName)) ∈ lwG := lw_t 751 rfl rfl
set_option maxRecDepth 100000 in
theorem w_752 : (Jvm.Cond.instanceMethod ({ cls := "SerialPlantModel", name := "point", desc := "(III)I" } : Jvm.MethodName)) ∈ lwG := lw_t 752 rfl rfl
set_option maxRecDepth 100000 in
theorem w_753 : (Jvm.Cond.selects "SerialPlantModel" ({ cls := "SerialPlantModel", name := "point", desc := "(III)I" } : Jvm.MethodName) ({ cls := "SerialPlantModel", name := "point", desc := "(III)I" } : Jvm.MethodName)) ∈ lwG := lw_t 753 rfl rfl
set_option maxRecDepth 100000 in
theorem w_755 : (Jvm.Cond.methodLink "SerialPlantLaw" (43 : Nat) ({ cls := "SerialPlantModel", name := "request", desc := "(IIIIJ)I" } : Jvm.MethodName)) ∈ lwG := lw_t 755 rfl rfl
set_option maxRecDepth 100000 in
theorem w_756 : (Jvm.Cond.instanceMethod ({ cls := "SerialPlantModel", name := "request", desc := "(IIIIJ)I" } : Jvm.MethodName)) ∈ lwG := lw_t 756 rfl rfl
set_option maxRecDepth 100000 in
theorem w_757 : (Jvm.Cond.selects "SerialPlantModel" ({ cls := "SerialPlantModel", name := "request", desc := "(IIIIJ)I" } : Jvm.MethodName) ({ cls := "SerialPlantModel", name := "request", desc := "(IIIIJ)I" } : Jvm.MethodName)) ∈ lwG := lw_t 757 rfl rfl
set_option maxRecDepth 100000 in
theorem w_759 : (Jvm.Cond.methodLink "SerialPlantModel" (132 : Nat) ({ cls := "SerialPlantModel", name := "put", desc := "(II)V" } : Jvm.MethodName)) ∈ lwG := lw_t 759 rfl rfl
set_option maxRecDepth 100000 in
theorem w_761 : (Jvm.Cond.instanceMethod ({ cls := "SerialPlantModel", name := "put", desc := "(II)V" } : Jvm.MethodName)) ∈ lwG := lw_t 761 rfl rfl
set_option maxRecDepth 100000 in
theorem w_763 : (Jvm.Cond.methodLink "SerialPlantLaw" (48 : Nat) ({ cls := "SerialPlantModel", name := "fault", desc := "(IZI)Z" } : Jvm.MethodName)) ∈ lwG := lw_t 763 rfl rfl
set_option maxRecDepth 100000 in
theorem w_764 : (Jvm.Cond.instanceMethod ({ cls := "SerialPlantModel", name := "fault", desc := "(IZI)Z" } : Jvm.MethodName)) ∈ lwG := lw_t 764 rfl rfl
set_option maxRecDepth 100000 in
theorem w_765 : (Jvm.Cond.selects "SerialPlantModel" ({ cls := "SerialPlantModel", name := "fault", desc := "(IZI)Z" } : Jvm.MethodName) ({ cls := "SerialPlantModel", name := "fault", desc := "(IZI)Z" } : Jvm.MethodName)) ∈ lwG := lw_t 765 rfl rfl
set_option maxRecDepth 100000 in
theorem w_767 : (Jvm.Cond.methodLink "SerialPlantLaw" (53 : Nat) ({ cls := "SerialPlantModel", name := "tick", desc := "()I" } : Jvm.MethodName)) ∈ lwG := lw_t 767 rfl rfl
set_option maxRecDepth 100000 in
theorem w_768 : (Jvm.Cond.instanceMethod ({ cls := "SerialPlantModel", name := "tick", desc := "()I" } : Jvm.MethodName)) ∈ lwG := lw_t 768 rfl rfl
set_option maxRecDepth 100000 in
theorem w_769 : (Jvm.Cond.selects "SerialPlantModel" ({ cls := "SerialPlantModel", name := "tick", desc := "()I" } : Jvm.MethodName) ({ cls := "SerialPlantModel", name := "tick", desc := "()I" } : Jvm.MethodName)) ∈ lwG := lw_t 769 rfl rfl
set_option maxRecDepth 100000 in
theorem w_771 : (Jvm.Cond.methodLink "SerialPlantModel" (220 : Nat) ({ cls := "SerialPlantModel", name := "polls", desc := "(II)Z" } : Jvm.MethodName)) ∈ lwG := lw_t 771 rfl rfl
set_option maxRecDepth 100000 in
theorem w_773 : (Jvm.Cond.instanceMethod ({ cls := "SerialPlantModel", name := "polls", desc := "(II)Z" } : Jvm.MethodName)) ∈ lwG := lw_t 773 rfl rfl
set_option maxRecDepth 100000 in
theorem w_775 : (Jvm.Cond.methodLink "SerialPlantModel" (224 : Nat) ({ cls := "SerialPlantModel", name := "goOn", desc := "(I)V" } : Jvm.MethodName)) ∈ lwG := lw_t 775 rfl rfl
set_option maxRecDepth 100000 in
theorem w_777 : (Jvm.Cond.instanceMethod ({ cls := "SerialPlantModel", name := "goOn", desc := "(I)V" } : Jvm.MethodName)) ∈ lwG := lw_t 777 rfl rfl
set_option maxRecDepth 100000 in
theorem w_779 : (Jvm.Cond.methodLink "SerialPlantModel" (204 : Nat) ({ cls := "SerialPlantModel", name := "comes", desc := "(I)V" } : Jvm.MethodName)) ∈ lwG := lw_t 779 rfl rfl
set_option maxRecDepth 100000 in
theorem w_781 : (Jvm.Cond.instanceMethod ({ cls := "SerialPlantModel", name := "comes", desc := "(I)V" } : Jvm.MethodName)) ∈ lwG := lw_t 781 rfl rfl
set_option maxRecDepth 100000 in
theorem w_783 : (Jvm.Cond.methodLink "SerialPlantModel" (207 : Nat) ({ cls := "SerialPlantModel", name := "take", desc := "(II)V" } : Jvm.MethodName)) ∈ lwG := lw_t 783 rfl rfl
set_option maxRecDepth 100000 in
theorem w_785 : (Jvm.Cond.instanceMethod ({ cls := "SerialPlantModel", name := "take", desc := "(II)V" } : Jvm.MethodName)) ∈ lwG := lw_t 785 rfl rfl
set_option maxRecDepth 100000 in
theorem w_787 : (Jvm.Cond.methodLink "SerialPlantModel" (213 : Nat) ({ cls := "SerialPlantModel", name := "isBroadcast", desc := "(I)Z" } : Jvm.MethodName)) ∈ lwG := lw_t 787 rfl rfl
set_option maxRecDepth 100000 in
theorem w_789 : (Jvm.Cond.instanceMethod ({ cls := "SerialPlantModel", name := "isBroadcast", desc := "(I)Z" } : Jvm.MethodName)) ∈ lwG := lw_t 789 rfl rfl
set_option maxRecDepth 100000 in
theorem w_791 : (Jvm.Cond.methodLink "SerialPlantModel" (217 : Nat) ({ cls := "SerialPlantModel", name := "send", desc := "(I)V" } : Jvm.MethodName)) ∈ lwG := lw_t 791 rfl rfl
set_option maxRecDepth 100000 in
theorem w_793 : (Jvm.Cond.instanceMethod ({ cls := "SerialPlantModel", name := "send", desc := "(I)V" } : Jvm.MethodName)) ∈ lwG := lw_t 793 rfl rfl
set_option maxRecDepth 100000 in
theorem w_795 : (Jvm.Cond.methodLink "SerialPlantModel" (194 : Nat) ({ cls := "SerialPlantModel", name := "carry", desc := "(IIIIIJ)V" } : Jvm.MethodName)) ∈ lwG := lw_t 795 rfl rfl
set_option maxRecDepth 100000 in
theorem w_797 : (Jvm.Cond.instanceMethod ({ cls := "SerialPlantModel", name := "carry", desc := "(IIIIIJ)V" } : Jvm.MethodName)) ∈ lwG := lw_t 797 rfl rfl
set_option maxRecDepth 100000 in
theorem w_799 : (Jvm.Cond.methodLink "SerialPlantModel" (171 : Nat) ({ cls := "SerialPlantModel", name := "writeRequest", desc := "(IIIIIJ)V" } : Jvm.MethodName)) ∈ lwG := lw_t 799 rfl rfl
set_option maxRecDepth 100000 in
theorem w_801 : (Jvm.Cond.instanceMethod ({ cls := "SerialPlantModel", name := "writeRequest", desc := "(IIIIIJ)V" } : Jvm.MethodName)) ∈ lwG := lw_t 801 rfl rfl
set_option maxRecDepth 100000 in
theorem w_803 : (Jvm.Cond.methodLink "SerialPlantModel" (149 : Nat) ({ cls := "SerialPlantModel", name := "begin", desc := "(III)V" } : Jvm.MethodName)) ∈ lwG := lw_t 803 rfl rfl
set_option maxRecDepth 100000 in
theorem w_805 : (Jvm.Cond.instanceMethod ({ cls := "SerialPlantModel", name := "begin", desc := "(III)V" } : Jvm.MethodName)) ∈ lwG := lw_t 805 rfl rfl
set_option maxRecDepth 100000 in
theorem w_807 : (Jvm.Cond.methodLink "SerialPlantModel" (136 : Nat) ({ cls := "SerialPlantModel", name := "add", desc := "(II)V" } : Jvm.MethodName)) ∈ lwG := lw_t 807 rfl rfl
set_option maxRecDepth 100000 in
theorem w_809 : (Jvm.Cond.instanceMethod ({ cls := "SerialPlantModel", name := "add", desc := "(II)V" } : Jvm.MethodName)) ∈ lwG := lw_t 809 rfl rfl
set_option maxRecDepth 100000 in
theorem w_811 : (Jvm.Cond.methodLink "SerialPlantModel" (146 : Nat) ({ cls := "SerialPlantModel", name := "addWord", desc := "(II)V" } : Jvm.MethodName)) ∈ lwG := lw_t 811 rfl rfl
set_option maxRecDepth 100000 in
theorem w_813 : (Jvm.Cond.instanceMethod ({ cls := "SerialPlantModel", name := "addWord", desc := "(II)V" } : Jvm.MethodName)) ∈ lwG := lw_t 813 rfl rfl
set_option maxRecDepth 100000 in
theorem w_815 : (Jvm.Cond.methodLink "SerialPlantModel" (142 : Nat) ({ cls := "SerialPlantModel", name := "word", desc := "(JI)I" } : Jvm.MethodName)) ∈ lwG := lw_t 815 rfl rfl
set_option maxRecDepth 100000 in
theorem w_816 : (Jvm.Cond.static ({ cls := "SerialPlantModel", name := "word", desc := "(JI)I" } : Jvm.MethodName)) ∈ lwG := lw_t 816 rfl rfl
set_option maxRecDepth 100000 in
theorem w_818 : (Jvm.Cond.constantLong "SerialPlantModel" (140 : Nat) (65535 : Int64)) ∈ lwG := lw_t 818 rfl rfl
set_option maxRecDepth 100000 in
theorem w_819 : (Jvm.Cond.methodLink "SerialPlantModel" (153 : Nat) ({ cls := "SerialPlantModel", name := "addBits", desc := "(IJI)V" } : Jvm.MethodName)) ∈ lwG := lw_t 819 rfl rfl
set_option maxRecDepth 100000 in
theorem w_821 : (Jvm.Cond.instanceMethod ({ cls := "SerialPlantModel", name := "addBits", desc := "(IJI)V" } : Jvm.MethodName)) ∈ lwG := lw_t 821 rfl rfl
set_option maxRecDepth 100000 in
theorem w_823 : (Jvm.Cond.methodLink "SerialPlantModel" (157 : Nat) ({ cls := "SerialPlantModel", name := "addWords", desc := "(IJI)V" } : Jvm.MethodName)) ∈ lwG := lw_t 823 rfl rfl
set_option maxRecDepth 100000 in
theorem w_825 : (Jvm.Cond.instanceMethod ({ cls := "SerialPlantModel", name := "addWords", desc := "(IJI)V" } : Jvm.MethodName)) ∈ lwG := lw_t 825 rfl rfl
set_option maxRecDepth 100000 in
theorem w_827 : (Jvm.Cond.methodLink "SerialPlantModel" (160 : Nat) ({ cls := "SerialPlantModel", name := "addSum", desc := "(I)V" } : Jvm.MethodName)) ∈ lwG := lw_t 827 rfl rfl
set_option maxRecDepth 100000 in
theorem w_829 : (Jvm.Cond.instanceMethod ({ cls := "SerialPlantModel", name := "addSum", desc := "(I)V" } : Jvm.MethodName)) ∈ lwG := lw_t 829 rfl rfl
set_option maxRecDepth 100000 in
theorem w_831 : (Jvm.Cond.constant "SerialPlantModel" (139 : Nat) (40961 : Int32)) ∈ lwG := lw_t 831 rfl rfl
set_option maxRecDepth 100000 in
theorem w_832 : (Jvm.Cond.methodLink "SerialPlantModel" (197 : Nat) ({ cls := "SerialPlantModel", name := "gets", desc := "(IIIIJZ)Z" } : Jvm.MethodName)) ∈ lwG := lw_t 832 rfl rfl
set_option maxRecDepth 100000 in
theorem w_834 : (Jvm.Cond.instanceMethod ({ cls := "SerialPlantModel", name := "gets", desc := "(IIIIJZ)Z" } : Jvm.MethodName)) ∈ lwG := lw_t 834 rfl rfl
set_option maxRecDepth 100000 in
theorem w_836 : (Jvm.Cond.methodLink "SerialPlantModel" (184 : Nat) ({ cls := "SerialPlantModel", name := "wrong", desc := "(IIIJ)I" } : Jvm.MethodName)) ∈ lwG := lw_t 836 rfl rfl
set_option maxRecDepth 100000 in
theorem w_837 : (Jvm.Cond.static ({ cls := "SerialPlantModel", name := "wrong", desc := "(IIIJ)I" } : Jvm.MethodName)) ∈ lwG := lw_t 837 rfl rfl
set_option maxRecDepth 100000 in
theorem w_839 : (Jvm.Cond.constant "SerialPlantModel" (175 : Nat) (65280 : Int32)) ∈ lwG := lw_t 839 rfl rfl
set_option maxRecDepth 100000 in
theorem w_840 : (Jvm.Cond.methodLink "SerialPlantModel" (188 : Nat) ({ cls := "SerialPlantModel", name := "act", desc := "(IIIIJ)V" } : Jvm.MethodName)) ∈ lwG := lw_t 840 rfl rfl
set_option maxRecDepth 100000 in
theorem w_842 : (Jvm.Cond.instanceMethod ({ cls := "SerialPlantModel", name := "act", desc := "(IIIIJ)V" } : Jvm.MethodName)) ∈ lwG := lw_t 842 rfl rfl
set_option maxRecDepth 100000 in
theorem w_844 : (Jvm.Cond.methodLink "SerialPlantModel" (176 : Nat) ({ cls := "SerialPlantModel", name := "write", desc := "(IIIIJ)V" } : Jvm.MethodName)) ∈ lwG := lw_t 844 rfl rfl
set_option maxRecDepth 100000 in
theorem w_846 : (Jvm.Cond.instanceMethod ({ cls := "SerialPlantModel", name := "write", desc := "(IIIIJ)V" } : Jvm.MethodName)) ∈ lwG := lw_t 846 rfl rfl
set_option maxRecDepth 100000 in
theorem w_848 : (Jvm.Cond.methodLink "SerialPlantModel" (180 : Nat) ({ cls := "SerialPlantModel", name := "read", desc := "(IIII)J" } : Jvm.MethodName)) ∈ lwG := lw_t 848 rfl rfl
set_option maxRecDepth 100000 in
theorem w_850 : (Jvm.Cond.instanceMethod ({ cls := "SerialPlantModel", name := "read", desc := "(IIII)J" } : Jvm.MethodName)) ∈ lwG := lw_t 850 rfl rfl
set_option maxRecDepth 100000 in
theorem w_852 : (Jvm.Cond.methodLink "SerialPlantModel" (201 : Nat) ({ cls := "SerialPlantModel", name := "writeAnswer", desc := "(IIIIIJ)V" } : Jvm.MethodName)) ∈ lwG := lw_t 852 rfl rfl
set_option maxRecDepth 100000 in
theorem w_854 : (Jvm.Cond.instanceMethod ({ cls := "SerialPlantModel", name := "writeAnswer", desc := "(IIIIIJ)V" } : Jvm.MethodName)) ∈ lwG := lw_t 854 rfl rfl
set_option maxRecDepth 100000 in
theorem w_856 : (Jvm.Cond.methodLink "SerialPlantModel" (227 : Nat) ({ cls := "SerialPlantModel", name := "begins", desc := "(I)V" } : Jvm.MethodName)) ∈ lwG := lw_t 856 rfl rfl
set_option maxRecDepth 100000 in
theorem w_858 : (Jvm.Cond.instanceMethod ({ cls := "SerialPlantModel", name := "begins", desc := "(I)V" } : Jvm.MethodName)) ∈ lwG := lw_t 858 rfl rfl
set_option maxRecDepth 100000 in
theorem w_860 : (Jvm.Cond.methodLink "SerialPlantLaw" (58 : Nat) ({ cls := "SerialPlantModel", name := "reply", desc := "(II)J" } : Jvm.MethodName)) ∈ lwG := lw_t 860 rfl rfl
set_option maxRecDepth 100000 in
theorem w_861 : (Jvm.Cond.instanceMethod ({ cls := "SerialPlantModel", name := "reply", desc := "(II)J" } : Jvm.MethodName)) ∈ lwG := lw_t 861 rfl rfl
set_option maxRecDepth 100000 in
theorem w_862 : (Jvm.Cond.selects "SerialPlantModel" ({ cls := "SerialPlantModel", name := "reply", desc := "(II)J" } : Jvm.MethodName) ({ cls := "SerialPlantModel", name := "reply", desc := "(II)J" } : Jvm.MethodName)) ∈ lwG := lw_t 862 rfl rfl
set_option maxRecDepth 100000 in
theorem w_864 : (Jvm.Cond.constantLong "SerialPlantModel" (230 : Nat) (-1 : Int64)) ∈ lwG := lw_t 864 rfl rfl
set_option maxRecDepth 100000 in
theorem w_865 : (Jvm.Cond.methodLink "SerialPlantLaw" (63 : Nat) ({ cls := "SerialPlantModel", name := "line", desc := "(II)I" } : Jvm.MethodName)) ∈ lwG := lw_t 865 rfl rfl
set_option maxRecDepth 100000 in
theorem w_866 : (Jvm.Cond.instanceMethod ({ cls := "SerialPlantModel", name := "line", desc := "(II)I" } : Jvm.MethodName)) ∈ lwG := lw_t 866 rfl rfl
set_option maxRecDepth 100000 in
theorem w_867 : (Jvm.Cond.selects "SerialPlantModel" ({ cls := "SerialPlantModel", name := "line", desc := "(II)I" } : Jvm.MethodName) ({ cls := "SerialPlantModel", name := "line", desc := "(II)I" } : Jvm.MethodName)) ∈ lwG := lw_t 867 rfl rfl
set_option maxRecDepth 100000 in
theorem w_869 : (Jvm.Cond.methodLink "SerialPlantLaw" (68 : Nat) ({ cls := "SerialPlantModel", name := "wire", desc := "(IZI)I" } : Jvm.MethodName)) ∈ lwG := lw_t 869 rfl rfl
set_option maxRecDepth 100000 in
theorem w_870 : (Jvm.Cond.instanceMethod ({ cls := "SerialPlantModel", name := "wire", desc := "(IZI)I" } : Jvm.MethodName)) ∈ lwG := lw_t 870 rfl rfl
set_option maxRecDepth 100000 in
theorem w_871 : (Jvm.Cond.selects "SerialPlantModel" ({ cls := "SerialPlantModel", name := "wire", desc := "(IZI)I" } : Jvm.MethodName) ({ cls := "SerialPlantModel", name := "wire", desc := "(IZI)I" } : Jvm.MethodName)) ∈ lwG := lw_t 871 rfl rfl
set_option maxRecDepth 100000 in
theorem w_873 : (Jvm.Cond.methodLink "SerialPlantLaw" (72 : Nat) ({ cls := "SerialPlantModel", name := "sample", desc := "(II)I" } : Jvm.MethodName)) ∈ lwG := lw_t 873 rfl rfl
set_option maxRecDepth 100000 in
theorem w_874 : (Jvm.Cond.instanceMethod ({ cls := "SerialPlantModel", name := "sample", desc := "(II)I" } : Jvm.MethodName)) ∈ lwG := lw_t 874 rfl rfl
set_option maxRecDepth 100000 in
theorem w_875 : (Jvm.Cond.selects "SerialPlantModel" ({ cls := "SerialPlantModel", name := "sample", desc := "(II)I" } : Jvm.MethodName) ({ cls := "SerialPlantModel", name := "sample", desc := "(II)I" } : Jvm.MethodName)) ∈ lwG := lw_t 875 rfl rfl
set_option maxRecDepth 100000 in
theorem w_877 : (Jvm.Cond.methodLink "SerialPlantLaw" (76 : Nat) ({ cls := "SerialPlantModel", name := "samples", desc := "(III)I" } : Jvm.MethodName)) ∈ lwG := lw_t 877 rfl rfl
set_option maxRecDepth 100000 in
theorem w_878 : (Jvm.Cond.instanceMethod ({ cls := "SerialPlantModel", name := "samples", desc := "(III)I" } : Jvm.MethodName)) ∈ lwG := lw_t 878 rfl rfl
set_option maxRecDepth 100000 in
theorem w_879 : (Jvm.Cond.selects "SerialPlantModel" ({ cls := "SerialPlantModel", name := "samples", desc := "(III)I" } : Jvm.MethodName) ({ cls := "SerialPlantModel", name := "samples", desc := "(III)I" } : Jvm.MethodName)) ∈ lwG := lw_t 879 rfl rfl
set_option maxRecDepth 100000 in
theorem w_881 : (Jvm.Cond.constantLong "SerialPlantLaw" (37 : Nat) (4294967295 : Int64)) ∈ lwG := lw_t 881 rfl rfl
set_option maxRecDepth 100000 in
theorem w_882 : (Jvm.Cond.sameMethod "SerialPlant$Job" "SerialPlant$Job" "isBroadcast" "()Z") ∈ lwG := lw_t 882 rfl rfl
set_option maxRecDepth 100000 in
theorem w_883 : (Jvm.Cond.selects "SerialPlant$Poll" ({ cls := "SerialPlant$Job", name := "isBroadcast", desc := "()Z" } : Jvm.MethodName) ({ cls := "SerialPlant$Job", name := "isBroadcast", desc := "()Z" } : Jvm.MethodName)) ∈ lwG := lw_t 883 rfl rfl
set_option maxRecDepth 100000 in
theorem w_884 : (Jvm.Cond.selects "SerialPlant$Request" ({ cls := "SerialPlant$Job", name := "isBroadcast", desc := "()Z" } : Jvm.MethodName) ({ cls := "SerialPlant$Job", name := "isBroadcast", desc := "()Z" } : Jvm.MethodName)) ∈ lwG := lw_t 884 rfl rfl
set_option maxRecDepth 100000 in
theorem w_885 : (Jvm.Cond.sameMethod "SerialPlant$Job" "SerialPlant$Job" "bitBytes" "()I") ∈ lwG := lw_t 885 rfl rfl
set_option maxRecDepth 100000 in
theorem w_886 : (Jvm.Cond.selects "SerialPlant$Poll" ({ cls := "SerialPlant$Job", name := "bitBytes", desc := "()I" } : Jvm.MethodName) ({ cls := "SerialPlant$Job", name := "bitBytes", desc := "()I" } : Jvm.MethodName)) ∈ lwG := lw_t 886 rfl rfl
set_option maxRecDepth 100000 in
theorem w_887 : (Jvm.Cond.selects "SerialPlant$Request" ({ cls := "SerialPlant$Job", name := "bitBytes", desc := "()I" } : Jvm.MethodName) ({ cls := "SerialPlant$Job", name := "bitBytes", desc := "()I" } : Jvm.MethodName)) ∈ lwG := lw_t 887 rfl rfl
theorem wp_0 : Cond.selects "SerialPlant" ⟨"SerialPlant", "isAttachedSlave", "(I)Z"⟩ ⟨"SerialPlant", "isAttachedSlave", "(I)Z"⟩ ∈ lwG := lw_s 0 rfl rfl
theorem wp_1 : Cond.selects "SerialPlant" ⟨"SerialPlant", "accept", "(LSerialPlant$Request;)V"⟩ ⟨"SerialPlant", "accept", "(LSerialPlant$Request;)V"⟩ ∈ lwG := lw_s 1 rfl rfl
theorem wp_2 : Cond.selects "SerialPlant" ⟨"SerialPlant", "enqueue", "(LSerialPlant$Job;)Z"⟩ ⟨"SerialPlant", "enqueue", "(LSerialPlant$Job;)Z"⟩ ∈ lwG := lw_s 2 rfl rfl
theorem wp_3 : Cond.selects "SerialPlant" ⟨"SerialPlant", "queuePolls", "()V"⟩ ⟨"SerialPlant", "queuePolls", "()V"⟩ ∈ lwG := lw_s 3 rfl rfl
theorem wp_4 : Cond.selects "SerialPlant" ⟨"SerialPlant", "isOnItsWay", "(LSerialPlant$Job;)Z"⟩ ⟨"SerialPlant", "isOnItsWay", "(LSerialPlant$Job;)Z"⟩ ∈ lwG := lw_s 4 rfl rfl
theorem wp_5 : Cond.selects "SerialPlant" ⟨"SerialPlant", "serve", "(LSerialPlant$Line;)V"⟩ ⟨"SerialPlant", "serve", "(LSerialPlant$Line;)V"⟩ ∈ lwG := lw_s 5 rfl rfl
theorem wp_6 : Cond.selects "SerialPlant" ⟨"SerialPlant", "takeAnswer", "(LSerialPlant$Line;)V"⟩ ⟨"SerialPlant", "takeAnswer", "(LSerialPlant$Line;)V"⟩ ∈ lwG := lw_s 6 rfl rfl
theorem wp_7 : Cond.selects "SerialPlant" ⟨"SerialPlant", "send", "(LSerialPlant$Line;)V"⟩ ⟨"SerialPlant", "send", "(LSerialPlant$Line;)V"⟩ ∈ lwG := lw_s 7 rfl rfl
theorem wp_8 : Cond.selects "SerialPlant" ⟨"SerialPlant", "deliver", "(LSerialPlant$Line;LSerialPlant$Job;)LSerialPlant$Slave;"⟩ ⟨"SerialPlant", "deliver", "(LSerialPlant$Line;LSerialPlant$Job;)LSerialPlant$Slave;"⟩ ∈ lwG := lw_s 8 rfl rfl
theorem wp_9 : Cond.selects "SerialPlantModel" ⟨"SerialPlantModel", "put", "(II)V"⟩ ⟨"SerialPlantModel", "put", "(II)V"⟩ ∈ lwG := lw_s 9 rfl rfl
theorem wp_10 : Cond.selects "SerialPlantModel" ⟨"SerialPlantModel", "polls", "(II)Z"⟩ ⟨"SerialPlantModel", "polls", "(II)Z"⟩ ∈ lwG := lw_s 10 rfl rfl
theorem wp_11 : Cond.selects "SerialPlantModel" ⟨"SerialPlantModel", "goOn", "(I)V"⟩ ⟨"SerialPlantModel", "goOn", "(I)V"⟩ ∈ lwG := lw_s 11 rfl rfl
theorem wp_12 : Cond.selects "SerialPlantModel" ⟨"SerialPlantModel", "comes", "(I)V"⟩ ⟨"SerialPlantModel", "comes", "(I)V"⟩ ∈ lwG := lw_s 12 rfl rfl
theorem wp_13 : Cond.selects "SerialPlantModel" ⟨"SerialPlantModel", "take", "(II)V"⟩ ⟨"SerialPlantModel", "take", "(II)V"⟩ ∈ lwG := lw_s 13 rfl rfl
theorem wp_14 : Cond.selects "SerialPlantModel" ⟨"SerialPlantModel", "isBroadcast", "(I)Z"⟩ ⟨"SerialPlantModel", "isBroadcast", "(I)Z"⟩ ∈ lwG := lw_s 14 rfl rfl
theorem wp_15 : Cond.selects "SerialPlantModel" ⟨"SerialPlantModel", "send", "(I)V"⟩ ⟨"SerialPlantModel", "send", "(I)V"⟩ ∈ lwG := lw_s 15 rfl rfl
theorem wp_16 : Cond.selects "SerialPlantModel" ⟨"SerialPlantModel", "carry", "(IIIIIJ)V"⟩ ⟨"SerialPlantModel", "carry", "(IIIIIJ)V"⟩ ∈ lwG := lw_s 16 rfl rfl
theorem wp_17 : Cond.selects "SerialPlantModel" ⟨"SerialPlantModel", "writeRequest", "(IIIIIJ)V"⟩ ⟨"SerialPlantModel", "writeRequest", "(IIIIIJ)V"⟩ ∈ lwG := lw_s 17 rfl rfl
theorem wp_18 : Cond.selects "SerialPlantModel" ⟨"SerialPlantModel", "begin", "(III)V"⟩ ⟨"SerialPlantModel", "begin", "(III)V"⟩ ∈ lwG := lw_s 18 rfl rfl
theorem wp_19 : Cond.selects "SerialPlantModel" ⟨"SerialPlantModel", "add", "(II)V"⟩ ⟨"SerialPlantModel", "add", "(II)V"⟩ ∈ lwG := lw_s 19 rfl rfl
theorem wp_20 : Cond.selects "SerialPlantModel" ⟨"SerialPlantModel", "addWord", "(II)V"⟩ ⟨"SerialPlantModel", "addWord", "(II)V"⟩ ∈ lwG := lw_s 20 rfl rfl
theorem wp_21 : Cond.selects "SerialPlantModel" ⟨"SerialPlantModel", "addBits", "(IJI)V"⟩ ⟨"SerialPlantModel", "addBits", "(IJI)V"⟩ ∈ lwG := lw_s 21 rfl rfl
theorem wp_22 : Cond.selects "SerialPlantModel" ⟨"SerialPlantModel", "addWords", "(IJI)V"⟩ ⟨"SerialPlantModel", "addWords", "(IJI)V"⟩ ∈ lwG := lw_s 22 rfl rfl
theorem wp_23 : Cond.selects "SerialPlantModel" ⟨"SerialPlantModel", "addSum", "(I)V"⟩ ⟨"SerialPlantModel", "addSum", "(I)V"⟩ ∈ lwG := lw_s 23 rfl rfl
theorem wp_24 : Cond.selects "SerialPlantModel" ⟨"SerialPlantModel", "gets", "(IIIIJZ)Z"⟩ ⟨"SerialPlantModel", "gets", "(IIIIJZ)Z"⟩ ∈ lwG := lw_s 24 rfl rfl
theorem wp_25 : Cond.selects "SerialPlantModel" ⟨"SerialPlantModel", "act", "(IIIIJ)V"⟩ ⟨"SerialPlantModel", "act", "(IIIIJ)V"⟩ ∈ lwG := lw_s 25 rfl rfl
theorem wp_26 : Cond.selects "SerialPlantModel" ⟨"SerialPlantModel", "write", "(IIIIJ)V"⟩ ⟨"SerialPlantModel", "write", "(IIIIJ)V"⟩ ∈ lwG := lw_s 26 rfl rfl
theorem wp_27 : Cond.selects "SerialPlantModel" ⟨"SerialPlantModel", "read", "(IIII)J"⟩ ⟨"SerialPlantModel", "read", "(IIII)J"⟩ ∈ lwG := lw_s 27 rfl rfl
theorem wp_28 : Cond.selects "SerialPlantModel" ⟨"SerialPlantModel", "writeAnswer", "(IIIIIJ)V"⟩ ⟨"SerialPlantModel", "writeAnswer", "(IIIIIJ)V"⟩ ∈ lwG := lw_s 28 rfl rfl
theorem wp_29 : Cond.selects "SerialPlantModel" ⟨"SerialPlantModel", "begins", "(I)V"⟩ ⟨"SerialPlantModel", "begins", "(I)V"⟩ ∈ lwG := lw_s 29 rfl rfl
set_option maxRecDepth 100000 in
theorem w_oi : Cond.code Lib.objectInit ⟨#[0xb1]⟩ 1 none ∈ lwG := lw_t 18 rfl rfl
def TFr : u_T := fun k => match k with
  | 0 => ("SerialPlant$Frame", "bytes", "[I", true)
  | _ => ("SerialPlant$Frame", "length", "I", false)
def tyFr : Nat → FieldType := fun k => match k with
  | 0 => .array .int
  | _ => .int
theorem nmFr : ∀ a, a < 2 → ∀ b, b < 2 → a ≠ b → (TFr a).2.1 ≠ (TFr b).2.1 := by decide +kernel
theorem tyFr_ok : ∀ k, k < 2 → parseFieldDescriptor (TFr k).2.2.1 = some (tyFr k) := by decide +kernel
set_option maxRecDepth 100000 in
theorem inFr : ∀ w ∈ u_ws "SerialPlant$Frame" TFr 2, w ∈ lwG := (m1 (lw_t 79 rfl rfl) (m1 (lw_t 81 rfl rfl) m0))
theorem dfFr : ∀ j, j < 2 → defaultValue (tyFr j) = vp_V [.null, .int 0] j := by decide +kernel
def THi : u_T := fun k => match k with
  | 0 => ("SerialPlant$History", "times", "[I", true)
  | 1 => ("SerialPlant$History", "points", "[I", true)
  | 2 => ("SerialPlant$History", "words", "[I", true)
  | 3 => ("SerialPlant$History", "latest", "[I", true)
  | 4 => ("SerialPlant$History", "oldest", "I", false)
  | _ => ("SerialPlant$History", "stored", "I", false)
def tyHi : Nat → FieldType := fun k => match k with
  | 0 => .array .int
  | 1 => .array .int
  | 2 => .array .int
  | 3 => .array .int
  | 4 => .int
  | _ => .int
theorem nmHi : ∀ a, a < 6 → ∀ b, b < 6 → a ≠ b → (THi a).2.1 ≠ (THi b).2.1 := by decide +kernel
theorem tyHi_ok : ∀ k, k < 6 → parseFieldDescriptor (THi k).2.2.1 = some (tyHi k) := by decide +kernel
set_option maxRecDepth 100000 in
theorem inHi : ∀ w ∈ u_ws "SerialPlant$History" THi 6, w ∈ lwG := (m1 (lw_t 145 rfl rfl) (m1 (lw_t 147 rfl rfl) (m1 (lw_t 149 rfl rfl) (m1 (lw_t 151 rfl rfl) (m1 (lw_t 153 rfl rfl) (m1 (lw_t 155 rfl rfl) m0))))))
theorem dfHi : ∀ j, j < 6 → defaultValue (tyHi j) = vp_V [.null, .null, .null, .null, .int 0, .int 0] j := by decide +kernel
def TLi : u_T := fun k => match k with
  | 0 => ("SerialPlant$Line", "number", "I", true)
  | 1 => ("SerialPlant$Line", "requests", "LSerialPlant$Way;", true)
  | 2 => ("SerialPlant$Line", "answers", "LSerialPlant$Way;", true)
  | 3 => ("SerialPlant$Line", "queue", "[LSerialPlant$Job;", true)
  | 4 => ("SerialPlant$Line", "queued", "I", false)
  | 5 => ("SerialPlant$Line", "current", "LSerialPlant$Job;", false)
  | 6 => ("SerialPlant$Line", "attempts", "I", false)
  | 7 => ("SerialPlant$Line", "sentTime", "I", false)
  | _ => ("SerialPlant$Line", "answerTime", "I", false)
def tyLi : Nat → FieldType := fun k => match k with
  | 0 => .int
  | 1 => .object "SerialPlant$Way"
  | 2 => .object "SerialPlant$Way"
  | 3 => .array (.object "SerialPlant$Job")
  | 4 => .int
  | 5 => .object "SerialPlant$Job"
  | 6 => .int
  | 7 => .int
  | _ => .int
theorem nmLi : ∀ a, a < 9 → ∀ b, b < 9 → a ≠ b → (TLi a).2.1 ≠ (TLi b).2.1 := by decide +kernel
theorem tyLi_ok : ∀ k, k < 9 → parseFieldDescriptor (TLi k).2.2.1 = some (tyLi k) := by decide +kernel
set_option maxRecDepth 100000 in
theorem inLi : ∀ w ∈ u_ws "SerialPlant$Line" TLi 9, w ∈ lwG := (m1 (lw_t 110 rfl rfl) (m1 (lw_t 112 rfl rfl) (m1 (lw_t 114 rfl rfl) (m1 (lw_t 116 rfl rfl) (m1 (lw_t 118 rfl rfl) (m1 (lw_t 120 rfl rfl) (m1 (lw_t 122 rfl rfl) (m1 (lw_t 124 rfl rfl) (m1 (lw_t 126 rfl rfl) m0)))))))))
theorem dfLi : ∀ j, j < 9 → defaultValue (tyLi j) = vp_V [.int 0, .null, .null, .null, .int 0, .null, .int 0, .int 0, .int 0] j := by decide +kernel
def TPo : u_T := fun k => match k with
  | 0 => ("SerialPlant$Job", "number", "I", true)
  | 1 => ("SerialPlant$Job", "unit", "I", true)
  | 2 => ("SerialPlant$Job", "function", "I", true)
  | 3 => ("SerialPlant$Job", "address", "I", true)
  | 4 => ("SerialPlant$Job", "count", "I", true)
  | 5 => ("SerialPlant$Job", "value", "J", true)
  | 6 => ("SerialPlant$Poll", "point", "I", true)
  | _ => ("SerialPlant$Poll", "history", "LSerialPlant$History;", true)
def tyPo : Nat → FieldType := fun k => match k with
  | 0 => .int
  | 1 => .int
  | 2 => .int
  | 3 => .int
  | 4 => .int
  | 5 => .long
  | 6 => .int
  | _ => .object "SerialPlant$History"
theorem nmPo : ∀ a, a < 8 → ∀ b, b < 8 → a ≠ b → (TPo a).2.1 ≠ (TPo b).2.1 := by decide +kernel
theorem tyPo_ok : ∀ k, k < 8 → parseFieldDescriptor (TPo k).2.2.1 = some (tyPo k) := by decide +kernel
set_option maxRecDepth 100000 in
theorem inPo : ∀ w ∈ u_ws "SerialPlant$Poll" TPo 8, w ∈ lwG := (m1 (lw_t 258 rfl rfl) (m1 (lw_t 260 rfl rfl) (m1 (lw_t 262 rfl rfl) (m1 (lw_t 264 rfl rfl) (m1 (lw_t 266 rfl rfl) (m1 (lw_t 268 rfl rfl) (m1 (lw_t 254 rfl rfl) (m1 (lw_t 256 rfl rfl) m0))))))))
theorem dfPo : ∀ j, j < 8 → defaultValue (tyPo j) = vp_V [.int 0, .int 0, .int 0, .int 0, .int 0, .long 0, .int 0, .null] j := by decide +kernel
def TRe : u_T := fun k => match k with
  | 0 => ("SerialPlant$Job", "number", "I", true)
  | 1 => ("SerialPlant$Job", "unit", "I", true)
  | 2 => ("SerialPlant$Job", "function", "I", true)
  | 3 => ("SerialPlant$Job", "address", "I", true)
  | 4 => ("SerialPlant$Job", "count", "I", true)
  | 5 => ("SerialPlant$Job", "value", "J", true)
  | 6 => ("SerialPlant$Request", "state", "I", false)
  | 7 => ("SerialPlant$Request", "exception", "I", false)
  | _ => ("SerialPlant$Request", "result", "J", false)
def tyRe : Nat → FieldType := fun k => match k with
  | 0 => .int
  | 1 => .int
  | 2 => .int
  | 3 => .int
  | 4 => .int
  | 5 => .long
  | 6 => .int
  | 7 => .int
  | _ => .long
theorem nmRe : ∀ a, a < 9 → ∀ b, b < 9 → a ≠ b → (TRe a).2.1 ≠ (TRe b).2.1 := by decide +kernel
theorem tyRe_ok : ∀ k, k < 9 → parseFieldDescriptor (TRe k).2.2.1 = some (tyRe k) := by decide +kernel
set_option maxRecDepth 100000 in
theorem inRe : ∀ w ∈ u_ws "SerialPlant$Request" TRe 9, w ∈ lwG := (m1 (lw_t 292 rfl rfl) (m1 (lw_t 293 rfl rfl) (m1 (lw_t 294 rfl rfl) (m1 (lw_t 295 rfl rfl) (m1 (lw_t 296 rfl rfl) (m1 (lw_t 297 rfl rfl) (m1 (lw_t 286 rfl rfl) (m1 (lw_t 288 rfl rfl) (m1 (lw_t 290 rfl rfl) m0)))))))))
theorem dfRe : ∀ j, j < 9 → defaultValue (tyRe j) = vp_V [.int 0, .int 0, .int 0, .int 0, .int 0, .long 0, .int 0, .int 0, .long 0] j := by decide +kernel
def TSl : u_T := fun k => match k with
  | 0 => ("SerialPlant$Slave", "number", "I", true)
  | 1 => ("SerialPlant$Slave", "coils", "[I", true)
  | 2 => ("SerialPlant$Slave", "inputs", "[I", true)
  | 3 => ("SerialPlant$Slave", "holdings", "[I", true)
  | 4 => ("SerialPlant$Slave", "measures", "[I", true)
  | 5 => ("SerialPlant$Slave", "line", "I", false)
  | 6 => ("SerialPlant$Slave", "delay", "I", false)
  | 7 => ("SerialPlant$Slave", "on", "Z", false)
  | _ => ("SerialPlant$Slave", "listenOnly", "Z", false)
def tySl : Nat → FieldType := fun k => match k with
  | 0 => .int
  | 1 => .array .int
  | 2 => .array .int
  | 3 => .array .int
  | 4 => .array .int
  | 5 => .int
  | 6 => .int
  | 7 => .boolean
  | _ => .boolean
theorem nmSl : ∀ a, a < 9 → ∀ b, b < 9 → a ≠ b → (TSl a).2.1 ≠ (TSl b).2.1 := by decide +kernel
theorem tySl_ok : ∀ k, k < 9 → parseFieldDescriptor (TSl k).2.2.1 = some (tySl k) := by decide +kernel
set_option maxRecDepth 100000 in
theorem inSl : ∀ w ∈ u_ws "SerialPlant$Slave" TSl 9, w ∈ lwG := (m1 (lw_t 37 rfl rfl) (m1 (lw_t 39 rfl rfl) (m1 (lw_t 41 rfl rfl) (m1 (lw_t 43 rfl rfl) (m1 (lw_t 45 rfl rfl) (m1 (lw_t 47 rfl rfl) (m1 (lw_t 49 rfl rfl) (m1 (lw_t 51 rfl rfl) (m1 (lw_t 53 rfl rfl) m0)))))))))
theorem dfSl : ∀ j, j < 9 → defaultValue (tySl j) = vp_V [.int 0, .null, .null, .null, .null, .int 0, .int 0, .int 0, .int 0] j := by decide +kernel
def TWa : u_T := fun k => match k with
  | 0 => ("SerialPlant$Way", "frame", "LSerialPlant$Frame;", true)
  | _ => ("SerialPlant$Way", "faultWaits", "Z", false)
def tyWa : Nat → FieldType := fun k => match k with
  | 0 => .object "SerialPlant$Frame"
  | _ => .boolean
theorem nmWa : ∀ a, a < 2 → ∀ b, b < 2 → a ≠ b → (TWa a).2.1 ≠ (TWa b).2.1 := by decide +kernel
theorem tyWa_ok : ∀ k, k < 2 → parseFieldDescriptor (TWa k).2.2.1 = some (tyWa k) := by decide +kernel
set_option maxRecDepth 100000 in
theorem inWa : ∀ w ∈ u_ws "SerialPlant$Way" TWa 2, w ∈ lwG := (m1 (lw_t 87 rfl rfl) (m1 (lw_t 89 rfl rfl) m0))
theorem dfWa : ∀ j, j < 2 → defaultValue (tyWa j) = vp_V [.null, .int 0] j := by decide +kernel
def TPl : u_T := fun k => match k with
  | 0 => ("SerialPlant", "slaves", "[LSerialPlant$Slave;", true)
  | 1 => ("SerialPlant", "lines", "[LSerialPlant$Line;", true)
  | 2 => ("SerialPlant", "requests", "[LSerialPlant$Request;", true)
  | 3 => ("SerialPlant", "polls", "[LSerialPlant$Poll;", true)
  | 4 => ("SerialPlant", "history", "LSerialPlant$History;", true)
  | 5 => ("SerialPlant", "requestCount", "I", false)
  | 6 => ("SerialPlant", "pointCount", "I", false)
  | _ => ("SerialPlant", "time", "I", false)
def tyPl : Nat → FieldType := fun k => match k with
  | 0 => .array (.object "SerialPlant$Slave")
  | 1 => .array (.object "SerialPlant$Line")
  | 2 => .array (.object "SerialPlant$Request")
  | 3 => .array (.object "SerialPlant$Poll")
  | 4 => .object "SerialPlant$History"
  | 5 => .int
  | 6 => .int
  | _ => .int
theorem nmPl : ∀ a, a < 8 → ∀ b, b < 8 → a ≠ b → (TPl a).2.1 ≠ (TPl b).2.1 := by decide +kernel
theorem tyPl_ok : ∀ k, k < 8 → parseFieldDescriptor (TPl k).2.2.1 = some (tyPl k) := by decide +kernel
set_option maxRecDepth 100000 in
theorem inPl : ∀ w ∈ u_ws "SerialPlant" TPl 8, w ∈ lwG := (m1 (lw_t 166 rfl rfl) (m1 (lw_t 168 rfl rfl) (m1 (lw_t 170 rfl rfl) (m1 (lw_t 172 rfl rfl) (m1 (lw_t 174 rfl rfl) (m1 (lw_t 176 rfl rfl) (m1 (lw_t 178 rfl rfl) (m1 (lw_t 180 rfl rfl) m0))))))))
theorem dfPl : ∀ j, j < 8 → defaultValue (tyPl j) = vp_V [.null, .null, .null, .null, .null, .int 0, .int 0, .int 0] j := by decide +kernel
def TMo : u_T := fun k => match k with
  | 0 => ("SerialPlantModel", "clock", "I", false)
  | 1 => ("SerialPlantModel", "attached", "[Z", true)
  | 2 => ("SerialPlantModel", "lineOf", "[I", true)
  | 3 => ("SerialPlantModel", "delay", "[I", true)
  | 4 => ("SerialPlantModel", "off", "[Z", true)
  | 5 => ("SerialPlantModel", "listens", "[Z", true)
  | 6 => ("SerialPlantModel", "coils", "[I", true)
  | 7 => ("SerialPlantModel", "inputs", "[I", true)
  | 8 => ("SerialPlantModel", "holdings", "[I", true)
  | 9 => ("SerialPlantModel", "measures", "[I", true)
  | 10 => ("SerialPlantModel", "requests", "I", false)
  | 11 => ("SerialPlantModel", "units", "[I", true)
  | 12 => ("SerialPlantModel", "functions", "[I", true)
  | 13 => ("SerialPlantModel", "addresses", "[I", true)
  | 14 => ("SerialPlantModel", "counts", "[I", true)
  | 15 => ("SerialPlantModel", "values", "[J", true)
  | 16 => ("SerialPlantModel", "states", "[I", true)
  | 17 => ("SerialPlantModel", "codes", "[I", true)
  | 18 => ("SerialPlantModel", "results", "[J", true)
  | 19 => ("SerialPlantModel", "points", "I", false)
  | 20 => ("SerialPlantModel", "pointSlave", "[I", true)
  | 21 => ("SerialPlantModel", "pointTable", "[I", true)
  | 22 => ("SerialPlantModel", "pointAddress", "[I", true)
  | 23 => ("SerialPlantModel", "known", "[Z", true)
  | 24 => ("SerialPlantModel", "latest", "[I", true)
  | 25 => ("SerialPlantModel", "stored", "I", false)
  | 26 => ("SerialPlantModel", "samples", "[I", true)
  | 27 => ("SerialPlantModel", "queue", "[I", true)
  | 28 => ("SerialPlantModel", "queued", "[I", true)
  | 29 => ("SerialPlantModel", "busy", "[I", true)
  | 30 => ("SerialPlantModel", "attempts", "[I", true)
  | 31 => ("SerialPlantModel", "sentAt", "[I", true)
  | 32 => ("SerialPlantModel", "comesAt", "[I", true)
  | 33 => ("SerialPlantModel", "comesCode", "[I", true)
  | 34 => ("SerialPlantModel", "comesValue", "[J", true)
  | 35 => ("SerialPlantModel", "faultAsk", "[Z", true)
  | 36 => ("SerialPlantModel", "faultSay", "[Z", true)
  | 37 => ("SerialPlantModel", "frames", "[I", true)
  | 38 => ("SerialPlantModel", "lengths", "[I", true)
  | 39 => ("SerialPlantModel", "saidCode", "I", false)
  | _ => ("SerialPlantModel", "saidValue", "J", false)
def tyMo : Nat → FieldType := fun k => match k with
  | 0 => .int
  | 1 => .array .boolean
  | 2 => .array .int
  | 3 => .array .int
  | 4 => .array .boolean
  | 5 => .array .boolean
  | 6 => .array .int
  | 7 => .array .int
  | 8 => .array .int
  | 9 => .array .int
  | 10 => .int
  | 11 => .array .int
  | 12 => .array .int
  | 13 => .array .int
  | 14 => .array .int
  | 15 => .array .long
  | 16 => .array .int
  | 17 => .array .int
  | 18 => .array .long
  | 19 => .int
  | 20 => .array .int
  | 21 => .array .int
  | 22 => .array .int
  | 23 => .array .boolean
  | 24 => .array .int
  | 25 => .int
  | 26 => .array .int
  | 27 => .array .int
  | 28 => .array .int
  | 29 => .array .int
  | 30 => .array .int
  | 31 => .array .int
  | 32 => .array .int
  | 33 => .array .int
  | 34 => .array .long
  | 35 => .array .boolean
  | 36 => .array .boolean
  | 37 => .array .int
  | 38 => .array .int
  | 39 => .int
  | _ => .long
theorem nmMo : ∀ a, a < 41 → ∀ b, b < 41 → a ≠ b → (TMo a).2.1 ≠ (TMo b).2.1 := by decide +kernel
theorem tyMo_ok : ∀ k, k < 41 → parseFieldDescriptor (TMo k).2.2.1 = some (tyMo k) := by decide +kernel
set_option maxRecDepth 100000 in
theorem inMo : ∀ w ∈ u_ws "SerialPlantModel" TMo 41, w ∈ lwG := (m1 (lw_t 643 rfl rfl) (m1 (lw_t 645 rfl rfl) (m1 (lw_t 647 rfl rfl) (m1 (lw_t 649 rfl rfl) (m1 (lw_t 651 rfl rfl) (m1 (lw_t 653 rfl rfl) (m1 (lw_t 655 rfl rfl) (m1 (lw_t 657 rfl rfl) (m1 (lw_t 659 rfl rfl) (m1 (lw_t 661 rfl rfl) (m1 (lw_t 663 rfl rfl) (m1 (lw_t 665 rfl rfl) (m1 (lw_t 667 rfl rfl) (m1 (lw_t 669 rfl rfl) (m1 (lw_t 671 rfl rfl) (m1 (lw_t 673 rfl rfl) (m1 (lw_t 675 rfl rfl) (m1 (lw_t 677 rfl rfl) (m1 (lw_t 679 rfl rfl) (m1 (lw_t 681 rfl rfl) (m1 (lw_t 683 rfl rfl) (m1 (lw_t 685 rfl rfl) (m1 (lw_t 687 rfl rfl) (m1 (lw_t 689 rfl rfl) (m1 (lw_t 691 rfl rfl) (m1 (lw_t 693 rfl rfl) (m1 (lw_t 695 rfl rfl) (m1 (lw_t 697 rfl rfl) (m1 (lw_t 699 rfl rfl) (m1 (lw_t 701 rfl rfl) (m1 (lw_t 703 rfl rfl) (m1 (lw_t 705 rfl rfl) (m1 (lw_t 707 rfl rfl) (m1 (lw_t 709 rfl rfl) (m1 (lw_t 711 rfl rfl) (m1 (lw_t 713 rfl rfl) (m1 (lw_t 715 rfl rfl) (m1 (lw_t 717 rfl rfl) (m1 (lw_t 719 rfl rfl) (m1 (lw_t 721 rfl rfl) (m1 (lw_t 723 rfl rfl) m0)))))))))))))))))))))))))))))))))))))))))
theorem dfMo : ∀ j, j < 41 → defaultValue (tyMo j) = vp_V [.int 0, .null, .null, .null, .null, .null, .null, .null, .null, .null, .int 0, .null, .null, .null, .null, .null, .null, .null, .null, .int 0, .null, .null, .null, .null, .null, .int 0, .null, .null, .null, .null, .null, .null, .null, .null, .null, .null, .null, .null, .null, .int 0, .long 0] j := by decide +kernel
abbrev vwCl : List vw_C := [("SerialPlant$Frame", TFr, 2), ("SerialPlant$History", THi, 6), ("SerialPlant$Line", TLi, 9), ("SerialPlant$Poll", TPo, 8), ("SerialPlant$Request", TRe, 9), ("SerialPlant$Slave", TSl, 9), ("SerialPlant$Way", TWa, 2), ("SerialPlant", TPl, 8), ("SerialPlantModel", TMo, 41)]
abbrev hTy (tc : Nat → ClassId) : List (ClassId × FieldType) := [(tc 0, .int), (tc 1, .boolean), (tc 2, .long), (tc 3, .object "SerialPlant$Slave"), (tc 4, .object "SerialPlant$Line"), (tc 5, .object "SerialPlant$Request"), (tc 6, .object "SerialPlant$Poll"), (tc 7, .object "SerialPlant$Job")]
abbrev cSl_init : ByteArray := prog_8_method_1_code
def ySl_init : MethodName := ⟨"SerialPlant$Slave", "<init>", "(I)V"⟩
abbrev wsSl_init : List Cond := Cond.code ySl_init cSl_init 2 none :: lwG
set_option maxRecDepth 100000 in
theorem G0_Sl_init : GoodIn lwG wsSl_init := gc0 (lw_t 24 rfl rfl)
abbrev cFr_init : ByteArray := prog_2_method_1_code
def yFr_init : MethodName := ⟨"SerialPlant$Frame", "<init>", "()V"⟩
abbrev wsFr_init : List Cond := Cond.code yFr_init cFr_init 1 none :: lwG
set_option maxRecDepth 100000 in
theorem G0_Fr_init : GoodIn lwG wsFr_init := gc0 (lw_t 74 rfl rfl)
abbrev cWa_init : ByteArray := prog_9_method_1_code
def yWa_init : MethodName := ⟨"SerialPlant$Way", "<init>", "()V"⟩
abbrev wsWa_init : List Cond := Cond.code yWa_init cWa_init 1 none :: lwG
set_option maxRecDepth 100000 in
theorem G0_Wa_init : GoodIn lwG wsWa_init := gc0 (lw_t 68 rfl rfl)
abbrev cLi_init : ByteArray := prog_5_method_1_code
def yLi_init : MethodName := ⟨"SerialPlant$Line", "<init>", "(I)V"⟩
abbrev wsLi_init : List Cond := Cond.code yLi_init cLi_init 2 none :: lwG
set_option maxRecDepth 100000 in
theorem G0_Li_init : GoodIn lwG wsLi_init := gc0 (lw_t 62 rfl rfl)
abbrev cHi_init : ByteArray := prog_3_method_1_code
def yHi_init : MethodName := ⟨"SerialPlant$History", "<init>", "()V"⟩
abbrev wsHi_init : List Cond := Cond.code yHi_init cHi_init 1 none :: lwG
set_option maxRecDepth 100000 in
theorem G0_Hi_init : GoodIn lwG wsHi_init := gc0 (lw_t 137 rfl rfl)
abbrev cPl_init : ByteArray := prog_1_method_1_code
def yPl_init : MethodName := ⟨"SerialPlant", "<init>", "()V"⟩
abbrev wsPl_init : List Cond := Cond.code yPl_init cPl_init 2 none :: lwG
set_option maxRecDepth 100000 in
theorem G0_Pl_init : GoodIn lwG wsPl_init := gc0 (lw_t 15 rfl rfl)
abbrev cPl_isSlave : ByteArray := prog_1_method_16_code
def yPl_isSlave : MethodName := ⟨"SerialPlant", "isSlave", "(I)Z"⟩
abbrev wsPl_isSlave : List Cond := Cond.code yPl_isSlave cPl_isSlave 1 (some .boolean) :: lwG
set_option maxRecDepth 100000 in
theorem G0_Pl_isSlave : GoodIn lwG wsPl_isSlave := gc0 (lw_t 189 rfl rfl)
abbrev cPl_isLine : ByteArray := prog_1_method_17_code
def yPl_isLine : MethodName := ⟨"SerialPlant", "isLine", "(I)Z"⟩
abbrev wsPl_isLine : List Cond := Cond.code yPl_isLine cPl_isLine 1 (some .boolean) :: lwG
set_option maxRecDepth 100000 in
theorem G0_Pl_isLine : GoodIn lwG wsPl_isLine := gc0 (lw_t 192 rfl rfl)
abbrev cPl_isWithin : ByteArray := prog_1_method_15_code
def yPl_isWithin : MethodName := ⟨"SerialPlant", "isWithin", "(II)Z"⟩
abbrev wsPl_isWithin : List Cond := Cond.code yPl_isWithin cPl_isWithin 2 (some .boolean) :: lwG
set_option maxRecDepth 100000 in
theorem G0_Pl_isWithin : GoodIn lwG wsPl_isWithin := gc0 (lw_t 195 rfl rfl)
abbrev cSl_isAttached : ByteArray := prog_8_method_2_code
def ySl_isAttached : MethodName := ⟨"SerialPlant$Slave", "isAttached", "()Z"⟩
abbrev wsSl_isAttached : List Cond := Cond.code ySl_isAttached cSl_isAttached 1 (some .boolean) :: lwG
set_option maxRecDepth 100000 in
theorem G0_Sl_isAttached : GoodIn lwG wsSl_isAttached := gc0 (lw_t 199 rfl rfl)
abbrev cPl_attach : ByteArray := prog_1_method_2_code
def yPl_attach : MethodName := ⟨"SerialPlant", "attach", "(III)Z"⟩
abbrev wsPl_attach : List Cond := Cond.code yPl_attach cPl_attach 5 (some .boolean) :: lwG
set_option maxRecDepth 100000 in
theorem G0_Pl_attach : GoodIn lwG wsPl_attach := gc0 (lw_t 186 rfl rfl)
abbrev cPl_power : ByteArray := prog_1_method_3_code
def yPl_power : MethodName := ⟨"SerialPlant", "power", "(IZ)Z"⟩
abbrev wsPl_power : List Cond := Cond.code yPl_power cPl_power 3 (some .boolean) :: lwG
set_option maxRecDepth 100000 in
theorem G0_Pl_power : GoodIn lwG wsPl_power := gc0 (lw_t 203 rfl rfl)
abbrev cSl_tableOf : ByteArray := prog_8_method_4_code
def ySl_tableOf : MethodName := ⟨"SerialPlant$Slave", "tableOf", "(I)[I"⟩
abbrev wsSl_tableOf : List Cond := Cond.code ySl_tableOf cSl_tableOf 2 (some (.array .int)) :: lwG
set_option maxRecDepth 100000 in
theorem G0_Sl_tableOf : GoodIn lwG wsSl_tableOf := gc0 (lw_t 211 rfl rfl)
abbrev cPl_isPlace : ByteArray := prog_1_method_18_code
def yPl_isPlace : MethodName := ⟨"SerialPlant", "isPlace", "([II)Z"⟩
abbrev wsPl_isPlace : List Cond := Cond.code yPl_isPlace cPl_isPlace 2 (some .boolean) :: lwG
set_option maxRecDepth 100000 in
theorem G0_Pl_isPlace : GoodIn lwG wsPl_isPlace := gc0 (lw_t 215 rfl rfl)
abbrev cPl_process : ByteArray := prog_1_method_4_code
def yPl_process : MethodName := ⟨"SerialPlant", "process", "(IIII)Z"⟩
abbrev wsPl_process : List Cond := Cond.code yPl_process cPl_process 7 (some .boolean) :: lwG
set_option maxRecDepth 100000 in
theorem G0_Pl_process : GoodIn lwG wsPl_process := gc0 (lw_t 207 rfl rfl)
abbrev cPl_cell : ByteArray := prog_1_method_5_code
def yPl_cell : MethodName := ⟨"SerialPlant", "cell", "(III)I"⟩
abbrev wsPl_cell : List Cond := Cond.code yPl_cell cPl_cell 5 (some .int) :: lwG
set_option maxRecDepth 100000 in
theorem G0_Pl_cell : GoodIn lwG wsPl_cell := gc0 (lw_t 219 rfl rfl)
abbrev cPl_isAttachedSlave : ByteArray := prog_1_method_19_code
def yPl_isAttachedSlave : MethodName := ⟨"SerialPlant", "isAttachedSlave", "(I)Z"⟩
abbrev wsPl_isAttachedSlave : List Cond := Cond.code yPl_isAttachedSlave cPl_isAttachedSlave 2 (some .boolean) :: lwG
set_option maxRecDepth 100000 in
theorem G0_Pl_isAttachedSlave : GoodIn lwG wsPl_isAttachedSlave := gc0 (lw_t 227 rfl rfl)
abbrev cJo_init : ByteArray := prog_4_method_1_code
def yJo_init : MethodName := ⟨"SerialPlant$Job", "<init>", "(IIIIIJ)V"⟩
abbrev wsJo_init : List Cond := Cond.code yJo_init cJo_init 8 none :: lwG
set_option maxRecDepth 100000 in
theorem G0_Jo_init : GoodIn lwG wsJo_init := gc0 (lw_t 234 rfl rfl)
abbrev cPo_init : ByteArray := prog_6_method_1_code
def yPo_init : MethodName := ⟨"SerialPlant$Poll", "<init>", "(IIIILSerialPlant$History;)V"⟩
abbrev wsPo_init : List Cond := Cond.code yPo_init cPo_init 6 none :: lwG
set_option maxRecDepth 100000 in
theorem G0_Po_init : GoodIn lwG wsPo_init := gc0 (lw_t 231 rfl rfl)
abbrev cPl_point : ByteArray := prog_1_method_6_code
def yPl_point : MethodName := ⟨"SerialPlant", "point", "(III)I"⟩
abbrev wsPl_point : List Cond := Cond.code yPl_point cPl_point 5 (some .int) :: lwG
set_option maxRecDepth 100000 in
theorem G0_Pl_point : GoodIn lwG wsPl_point := gc0 (lw_t 223 rfl rfl)
abbrev cRe_init : ByteArray := prog_7_method_1_code
def yRe_init : MethodName := ⟨"SerialPlant$Request", "<init>", "(IIIIIJ)V"⟩
abbrev wsRe_init : List Cond := Cond.code yRe_init cRe_init 8 none :: lwG
set_option maxRecDepth 100000 in
theorem G0_Re_init : GoodIn lwG wsRe_init := gc0 (lw_t 278 rfl rfl)
abbrev cJo_isBroadcast : ByteArray := prog_4_method_4_code
def yJo_isBroadcast : MethodName := ⟨"SerialPlant$Job", "isBroadcast", "()Z"⟩
abbrev wsJo_isBroadcast : List Cond := Cond.code yJo_isBroadcast cJo_isBroadcast 1 (some .boolean) :: lwG
set_option maxRecDepth 100000 in
theorem G0_Jo_isBroadcast : GoodIn lwG wsJo_isBroadcast := gc0 (lw_t 308 rfl rfl)
abbrev cLi_enqueue : ByteArray := prog_5_method_3_code
def yLi_enqueue : MethodName := ⟨"SerialPlant$Line", "enqueue", "(LSerialPlant$Job;)Z"⟩
abbrev wsLi_enqueue : List Cond := Cond.code yLi_enqueue cLi_enqueue 2 (some .boolean) :: lwG
set_option maxRecDepth 100000 in
theorem G0_Li_enqueue : GoodIn lwG wsLi_enqueue := gc0 (lw_t 312 rfl rfl)
abbrev cPl_enqueue : ByteArray := prog_1_method_21_code
def yPl_enqueue : MethodName := ⟨"SerialPlant", "enqueue", "(LSerialPlant$Job;)Z"⟩
abbrev wsPl_enqueue : List Cond := Cond.code yPl_enqueue cPl_enqueue 3 (some .boolean) :: lwG
set_option maxRecDepth 100000 in
theorem G0_Pl_enqueue : GoodIn lwG wsPl_enqueue := gc0 (lw_t 316 rfl rfl)
abbrev cRe_refuse : ByteArray := prog_7_method_2_code
def yRe_refuse : MethodName := ⟨"SerialPlant$Request", "refuse", "(I)V"⟩
abbrev wsRe_refuse : List Cond := Cond.code yRe_refuse cRe_refuse 2 none :: lwG
set_option maxRecDepth 100000 in
theorem G0_Re_refuse : GoodIn lwG wsRe_refuse := gc0 (lw_t 320 rfl rfl)
abbrev cPl_accept : ByteArray := prog_1_method_20_code
def yPl_accept : MethodName := ⟨"SerialPlant", "accept", "(LSerialPlant$Request;)V"⟩
abbrev wsPl_accept : List Cond := Cond.code yPl_accept cPl_accept 3 none :: lwG
set_option maxRecDepth 100000 in
theorem G0_Pl_accept : GoodIn lwG wsPl_accept := gc0 (lw_t 302 rfl rfl)
abbrev cPl_request : ByteArray := prog_1_method_7_code
def yPl_request : MethodName := ⟨"SerialPlant", "request", "(IIIIJ)I"⟩
abbrev wsPl_request : List Cond := Cond.code yPl_request cPl_request 9 (some .int) :: lwG
set_option maxRecDepth 100000 in
theorem G0_Pl_request : GoodIn lwG wsPl_request := gc0 (lw_t 274 rfl rfl)
abbrev cLi_wayOf : ByteArray := prog_5_method_2_code
def yLi_wayOf : MethodName := ⟨"SerialPlant$Line", "wayOf", "(Z)LSerialPlant$Way;"⟩
abbrev wsLi_wayOf : List Cond := Cond.code yLi_wayOf cLi_wayOf 2 (some (.object "SerialPlant$Way")) :: lwG
set_option maxRecDepth 100000 in
theorem G0_Li_wayOf : GoodIn lwG wsLi_wayOf := gc0 (lw_t 328 rfl rfl)
abbrev cWa_plantFault : ByteArray := prog_9_method_2_code
def yWa_plantFault : MethodName := ⟨"SerialPlant$Way", "plantFault", "()Z"⟩
abbrev wsWa_plantFault : List Cond := Cond.code yWa_plantFault cWa_plantFault 1 (some .boolean) :: lwG
set_option maxRecDepth 100000 in
theorem G0_Wa_plantFault : GoodIn lwG wsWa_plantFault := gc0 (lw_t 332 rfl rfl)
abbrev cPl_fault : ByteArray := prog_1_method_8_code
def yPl_fault : MethodName := ⟨"SerialPlant", "fault", "(IZI)Z"⟩
abbrev wsPl_fault : List Cond := Cond.code yPl_fault cPl_fault 4 (some .boolean) :: lwG
set_option maxRecDepth 100000 in
theorem G0_Pl_fault : GoodIn lwG wsPl_fault := gc0 (lw_t 324 rfl rfl)
abbrev cLi_has : ByteArray := prog_5_method_4_code
def yLi_has : MethodName := ⟨"SerialPlant$Line", "has", "(LSerialPlant$Job;)Z"⟩
abbrev wsLi_has : List Cond := Cond.code yLi_has cLi_has 3 (some .boolean) :: lwG
set_option maxRecDepth 100000 in
theorem G0_Li_has : GoodIn lwG wsLi_has := gc0 (lw_t 348 rfl rfl)
abbrev cPl_isOnItsWay : ByteArray := prog_1_method_23_code
def yPl_isOnItsWay : MethodName := ⟨"SerialPlant", "isOnItsWay", "(LSerialPlant$Job;)Z"⟩
abbrev wsPl_isOnItsWay : List Cond := Cond.code yPl_isOnItsWay cPl_isOnItsWay 3 (some .boolean) :: lwG
set_option maxRecDepth 100000 in
theorem G0_Pl_isOnItsWay : GoodIn lwG wsPl_isOnItsWay := gc0 (lw_t 344 rfl rfl)
abbrev cPl_queuePolls : ByteArray := prog_1_method_22_code
def yPl_queuePolls : MethodName := ⟨"SerialPlant", "queuePolls", "()V"⟩
abbrev wsPl_queuePolls : List Cond := Cond.code yPl_queuePolls cPl_queuePolls 3 none :: lwG
set_option maxRecDepth 100000 in
theorem G0_Pl_queuePolls : GoodIn lwG wsPl_queuePolls := gc0 (lw_t 340 rfl rfl)
abbrev cLi_release : ByteArray := prog_5_method_10_code
def yLi_release : MethodName := ⟨"SerialPlant$Line", "release", "()V"⟩
abbrev wsLi_release : List Cond := Cond.code yLi_release cLi_release 1 none :: lwG
set_option maxRecDepth 100000 in
theorem G0_Li_release : GoodIn lwG wsLi_release := gc0 (lw_t 360 rfl rfl)
abbrev cFr_byteAt : ByteArray := prog_2_method_6_code
def yFr_byteAt : MethodName := ⟨"SerialPlant$Frame", "byteAt", "(I)I"⟩
abbrev wsFr_byteAt : List Cond := Cond.code yFr_byteAt cFr_byteAt 2 (some .int) :: lwG
set_option maxRecDepth 100000 in
theorem G0_Fr_byteAt : GoodIn lwG wsFr_byteAt := gc0 (lw_t 370 rfl rfl)
abbrev cFr_wordAt : ByteArray := prog_2_method_7_code
def yFr_wordAt : MethodName := ⟨"SerialPlant$Frame", "wordAt", "(I)I"⟩
abbrev wsFr_wordAt : List Cond := Cond.code yFr_wordAt cFr_wordAt 2 (some .int) :: lwG
set_option maxRecDepth 100000 in
theorem G0_Fr_wordAt : GoodIn lwG wsFr_wordAt := gc0 (lw_t 374 rfl rfl)
abbrev cHi_keep : ByteArray := prog_3_method_2_code
def yHi_keep : MethodName := ⟨"SerialPlant$History", "keep", "(III)V"⟩
abbrev wsHi_keep : List Cond := Cond.code yHi_keep cHi_keep 5 none :: lwG
set_option maxRecDepth 100000 in
theorem G0_Hi_keep : GoodIn lwG wsHi_keep := gc0 (lw_t 378 rfl rfl)
abbrev cPo_take : ByteArray := prog_6_method_2_code
def yPo_take : MethodName := ⟨"SerialPlant$Poll", "take", "(LSerialPlant$Frame;I)V"⟩
abbrev wsPo_take : List Cond := Cond.code yPo_take cPo_take 3 none :: lwG
set_option maxRecDepth 100000 in
theorem G0_Po_take : GoodIn lwG wsPo_take := gc0 (lw_t 366 rfl rfl)
abbrev cJo_bitBytes : ByteArray := prog_4_method_7_code
def yJo_bitBytes : MethodName := ⟨"SerialPlant$Job", "bitBytes", "()I"⟩
abbrev wsJo_bitBytes : List Cond := Cond.code yJo_bitBytes cJo_bitBytes 1 (some .int) :: lwG
set_option maxRecDepth 100000 in
theorem G0_Jo_bitBytes : GoodIn lwG wsJo_bitBytes := gc0 (lw_t 397 rfl rfl)
abbrev cRe_readBits : ByteArray := prog_7_method_6_code
def yRe_readBits : MethodName := ⟨"SerialPlant$Request", "readBits", "(LSerialPlant$Frame;)J"⟩
abbrev wsRe_readBits : List Cond := Cond.code yRe_readBits cRe_readBits 5 (some .long) :: lwG
set_option maxRecDepth 100000 in
theorem G0_Re_readBits : GoodIn lwG wsRe_readBits := gc0 (lw_t 391 rfl rfl)
abbrev cRe_readWords : ByteArray := prog_7_method_7_code
def yRe_readWords : MethodName := ⟨"SerialPlant$Request", "readWords", "(LSerialPlant$Frame;)J"⟩
abbrev wsRe_readWords : List Cond := Cond.code yRe_readWords cRe_readWords 5 (some .long) :: lwG
set_option maxRecDepth 100000 in
theorem G0_Re_readWords : GoodIn lwG wsRe_readWords := gc0 (lw_t 401 rfl rfl)
abbrev cRe_read : ByteArray := prog_7_method_5_code
def yRe_read : MethodName := ⟨"SerialPlant$Request", "read", "(LSerialPlant$Frame;)J"⟩
abbrev wsRe_read : List Cond := Cond.code yRe_read cRe_read 2 (some .long) :: lwG
set_option maxRecDepth 100000 in
theorem G0_Re_read : GoodIn lwG wsRe_read := gc0 (lw_t 387 rfl rfl)
abbrev cRe_take : ByteArray := prog_7_method_3_code
def yRe_take : MethodName := ⟨"SerialPlant$Request", "take", "(LSerialPlant$Frame;I)V"⟩
abbrev wsRe_take : List Cond := Cond.code yRe_take cRe_take 3 none :: lwG
set_option maxRecDepth 100000 in
theorem G0_Re_take : GoodIn lwG wsRe_take := gc0 (lw_t 381 rfl rfl)
abbrev cPl_takeAnswer : ByteArray := prog_1_method_25_code
def yPl_takeAnswer : MethodName := ⟨"SerialPlant", "takeAnswer", "(LSerialPlant$Line;)V"⟩
abbrev wsPl_takeAnswer : List Cond := Cond.code yPl_takeAnswer cPl_takeAnswer 3 none :: lwG
set_option maxRecDepth 100000 in
theorem G0_Pl_takeAnswer : GoodIn lwG wsPl_takeAnswer := gc0 (lw_t 356 rfl rfl)
abbrev cLi_isOverdue : ByteArray := prog_5_method_7_code
def yLi_isOverdue : MethodName := ⟨"SerialPlant$Line", "isOverdue", "(I)Z"⟩
abbrev wsLi_isOverdue : List Cond := Cond.code yLi_isOverdue cLi_isOverdue 3 (some .boolean) :: lwG
set_option maxRecDepth 100000 in
theorem G0_Li_isOverdue : GoodIn lwG wsLi_isOverdue := gc0 (lw_t 406 rfl rfl)
abbrev cLi_maySendAgain : ByteArray := prog_5_method_8_code
def yLi_maySendAgain : MethodName := ⟨"SerialPlant$Line", "maySendAgain", "()Z"⟩
abbrev wsLi_maySendAgain : List Cond := Cond.code yLi_maySendAgain cLi_maySendAgain 1 (some .boolean) :: lwG
set_option maxRecDepth 100000 in
theorem G0_Li_maySendAgain : GoodIn lwG wsLi_maySendAgain := gc0 (lw_t 411 rfl rfl)
abbrev cLi_markSending : ByteArray := prog_5_method_6_code
def yLi_markSending : MethodName := ⟨"SerialPlant$Line", "markSending", "(I)V"⟩
abbrev wsLi_markSending : List Cond := Cond.code yLi_markSending cLi_markSending 2 none :: lwG
set_option maxRecDepth 100000 in
theorem G0_Li_markSending : GoodIn lwG wsLi_markSending := gc0 (lw_t 419 rfl rfl)
abbrev cFr_addByte : ByteArray := prog_2_method_3_code
def yFr_addByte : MethodName := ⟨"SerialPlant$Frame", "addByte", "(I)V"⟩
abbrev wsFr_addByte : List Cond := Cond.code yFr_addByte cFr_addByte 2 none :: lwG
set_option maxRecDepth 100000 in
theorem G0_Fr_addByte : GoodIn lwG wsFr_addByte := gc0 (lw_t 433 rfl rfl)
abbrev cFr_begin : ByteArray := prog_2_method_2_code
def yFr_begin : MethodName := ⟨"SerialPlant$Frame", "begin", "(II)V"⟩
abbrev wsFr_begin : List Cond := Cond.code yFr_begin cFr_begin 3 none :: lwG
set_option maxRecDepth 100000 in
theorem G0_Fr_begin : GoodIn lwG wsFr_begin := gc0 (lw_t 429 rfl rfl)
abbrev cFr_addWord : ByteArray := prog_2_method_4_code
def yFr_addWord : MethodName := ⟨"SerialPlant$Frame", "addWord", "(I)V"⟩
abbrev wsFr_addWord : List Cond := Cond.code yFr_addWord cFr_addWord 2 none :: lwG
set_option maxRecDepth 100000 in
theorem G0_Fr_addWord : GoodIn lwG wsFr_addWord := gc0 (lw_t 437 rfl rfl)
abbrev cJo_word : ByteArray := prog_4_method_5_code
def yJo_word : MethodName := ⟨"SerialPlant$Job", "word", "(I)I"⟩
abbrev wsJo_word : List Cond := Cond.code yJo_word cJo_word 2 (some .int) :: lwG
set_option maxRecDepth 100000 in
theorem G0_Jo_word : GoodIn lwG wsJo_word := gc0 (lw_t 443 rfl rfl)
abbrev cJo_addBits : ByteArray := prog_4_method_12_code
def yJo_addBits : MethodName := ⟨"SerialPlant$Job", "addBits", "(LSerialPlant$Frame;)V"⟩
abbrev wsJo_addBits : List Cond := Cond.code yJo_addBits cJo_addBits 5 none :: lwG
set_option maxRecDepth 100000 in
theorem G0_Jo_addBits : GoodIn lwG wsJo_addBits := gc0 (lw_t 450 rfl rfl)
abbrev cJo_addWords : ByteArray := prog_4_method_13_code
def yJo_addWords : MethodName := ⟨"SerialPlant$Job", "addWords", "(LSerialPlant$Frame;)V"⟩
abbrev wsJo_addWords : List Cond := Cond.code yJo_addWords cJo_addWords 3 none :: lwG
set_option maxRecDepth 100000 in
theorem G0_Jo_addWords : GoodIn lwG wsJo_addWords := gc0 (lw_t 458 rfl rfl)
abbrev cFr_addSum : ByteArray := prog_2_method_5_code
def yFr_addSum : MethodName := ⟨"SerialPlant$Frame", "addSum", "()V"⟩
abbrev wsFr_addSum : List Cond := Cond.code yFr_addSum cFr_addSum 4 none :: lwG
set_option maxRecDepth 100000 in
theorem G0_Fr_addSum : GoodIn lwG wsFr_addSum := gc0 (lw_t 462 rfl rfl)
abbrev cJo_writeTo : ByteArray := prog_4_method_11_code
def yJo_writeTo : MethodName := ⟨"SerialPlant$Job", "writeTo", "(LSerialPlant$Frame;)V"⟩
abbrev wsJo_writeTo : List Cond := Cond.code yJo_writeTo cJo_writeTo 2 none :: lwG
set_option maxRecDepth 100000 in
theorem G0_Jo_writeTo : GoodIn lwG wsJo_writeTo := gc0 (lw_t 425 rfl rfl)
abbrev cWa_spendFault : ByteArray := prog_9_method_3_code
def yWa_spendFault : MethodName := ⟨"SerialPlant$Way", "spendFault", "()Z"⟩
abbrev wsWa_spendFault : List Cond := Cond.code yWa_spendFault cWa_spendFault 2 (some .boolean) :: lwG
set_option maxRecDepth 100000 in
theorem G0_Wa_spendFault : GoodIn lwG wsWa_spendFault := gc0 (lw_t 468 rfl rfl)
abbrev cSl_isMeantBy : ByteArray := prog_8_method_3_code
def ySl_isMeantBy : MethodName := ⟨"SerialPlant$Slave", "isMeantBy", "(LSerialPlant$Job;)Z"⟩
abbrev wsSl_isMeantBy : List Cond := Cond.code ySl_isMeantBy cSl_isMeantBy 2 (some .boolean) :: lwG
set_option maxRecDepth 100000 in
theorem G0_Sl_isMeantBy : GoodIn lwG wsSl_isMeantBy := gc0 (lw_t 476 rfl rfl)
abbrev cJo_spanRefusal : ByteArray := prog_4_method_9_code
def yJo_spanRefusal : MethodName := ⟨"SerialPlant$Job", "spanRefusal", "(II)I"⟩
abbrev wsJo_spanRefusal : List Cond := Cond.code yJo_spanRefusal cJo_spanRefusal 3 (some .int) :: lwG
set_option maxRecDepth 100000 in
theorem G0_Jo_spanRefusal : GoodIn lwG wsJo_spanRefusal := gc0 (lw_t 493 rfl rfl)
abbrev cJo_isKnownKind : ByteArray := prog_4_method_10_code
def yJo_isKnownKind : MethodName := ⟨"SerialPlant$Job", "isKnownKind", "()Z"⟩
abbrev wsJo_isKnownKind : List Cond := Cond.code yJo_isKnownKind cJo_isKnownKind 1 (some .boolean) :: lwG
set_option maxRecDepth 100000 in
theorem G0_Jo_isKnownKind : GoodIn lwG wsJo_isKnownKind := gc0 (lw_t 500 rfl rfl)
abbrev cJo_refusal : ByteArray := prog_4_method_8_code
def yJo_refusal : MethodName := ⟨"SerialPlant$Job", "refusal", "()I"⟩
abbrev wsJo_refusal : List Cond := Cond.code yJo_refusal cJo_refusal 1 (some .int) :: lwG
set_option maxRecDepth 100000 in
theorem G0_Jo_refusal : GoodIn lwG wsJo_refusal := gc0 (lw_t 487 rfl rfl)
abbrev cSl_put : ByteArray := prog_8_method_13_code
def ySl_put : MethodName := ⟨"SerialPlant$Slave", "put", "([III)V"⟩
abbrev wsSl_put : List Cond := Cond.code ySl_put cSl_put 3 none :: lwG
set_option maxRecDepth 100000 in
theorem G0_Sl_put : GoodIn lwG wsSl_put := gc0 (lw_t 509 rfl rfl)
abbrev cSl_get : ByteArray := prog_8_method_12_code
def ySl_get : MethodName := ⟨"SerialPlant$Slave", "get", "([II)I"⟩
abbrev wsSl_get : List Cond := Cond.code ySl_get cSl_get 2 (some .int) :: lwG
set_option maxRecDepth 100000 in
theorem G0_Sl_get : GoodIn lwG wsSl_get := gc0 (lw_t 512 rfl rfl)
abbrev cSl_masked : ByteArray := prog_8_method_11_code
def ySl_masked : MethodName := ⟨"SerialPlant$Slave", "masked", "(III)I"⟩
abbrev wsSl_masked : List Cond := Cond.code ySl_masked cSl_masked 3 (some .int) :: lwG
set_option maxRecDepth 100000 in
theorem G0_Sl_masked : GoodIn lwG wsSl_masked := gc0 (lw_t 515 rfl rfl)
abbrev cJo_bit : ByteArray := prog_4_method_6_code
def yJo_bit : MethodName := ⟨"SerialPlant$Job", "bit", "(I)I"⟩
abbrev wsJo_bit : List Cond := Cond.code yJo_bit cJo_bit 2 (some .int) :: lwG
set_option maxRecDepth 100000 in
theorem G0_Jo_bit : GoodIn lwG wsJo_bit := gc0 (lw_t 521 rfl rfl)
abbrev cSl_changeMode : ByteArray := prog_8_method_7_code
def ySl_changeMode : MethodName := ⟨"SerialPlant$Slave", "changeMode", "(I)V"⟩
abbrev wsSl_changeMode : List Cond := Cond.code ySl_changeMode cSl_changeMode 2 none :: lwG
set_option maxRecDepth 100000 in
theorem G0_Sl_changeMode : GoodIn lwG wsSl_changeMode := gc0 (lw_t 525 rfl rfl)
abbrev cSl_carryOut : ByteArray := prog_8_method_6_code
def ySl_carryOut : MethodName := ⟨"SerialPlant$Slave", "carryOut", "(LSerialPlant$Job;)V"⟩
abbrev wsSl_carryOut : List Cond := Cond.code ySl_carryOut cSl_carryOut 3 none :: lwG
set_option maxRecDepth 100000 in
theorem G0_Sl_carryOut : GoodIn lwG wsSl_carryOut := gc0 (lw_t 504 rfl rfl)
abbrev cSl_obey : ByteArray := prog_8_method_5_code
def ySl_obey : MethodName := ⟨"SerialPlant$Slave", "obey", "(LSerialPlant$Job;)Z"⟩
abbrev wsSl_obey : List Cond := Cond.code ySl_obey cSl_obey 3 (some .boolean) :: lwG
set_option maxRecDepth 100000 in
theorem G0_Sl_obey : GoodIn lwG wsSl_obey := gc0 (lw_t 481 rfl rfl)
abbrev cPl_deliver : ByteArray := prog_1_method_27_code
def yPl_deliver : MethodName := ⟨"SerialPlant", "deliver", "(LSerialPlant$Line;LSerialPlant$Job;)LSerialPlant$Slave;"⟩
abbrev wsPl_deliver : List Cond := Cond.code yPl_deliver cPl_deliver 6 (some (.object "SerialPlant$Slave")) :: lwG
set_option maxRecDepth 100000 in
theorem G0_Pl_deliver : GoodIn lwG wsPl_deliver := gc0 (lw_t 472 rfl rfl)
abbrev cSl_writeBits : ByteArray := prog_8_method_9_code
def ySl_writeBits : MethodName := ⟨"SerialPlant$Slave", "writeBits", "(LSerialPlant$Job;LSerialPlant$Frame;)V"⟩
abbrev wsSl_writeBits : List Cond := Cond.code ySl_writeBits cSl_writeBits 7 none :: lwG
set_option maxRecDepth 100000 in
theorem G0_Sl_writeBits : GoodIn lwG wsSl_writeBits := gc0 (lw_t 536 rfl rfl)
abbrev cSl_writeWords : ByteArray := prog_8_method_10_code
def ySl_writeWords : MethodName := ⟨"SerialPlant$Slave", "writeWords", "(LSerialPlant$Job;LSerialPlant$Frame;)V"⟩
abbrev wsSl_writeWords : List Cond := Cond.code ySl_writeWords cSl_writeWords 5 none :: lwG
set_option maxRecDepth 100000 in
theorem G0_Sl_writeWords : GoodIn lwG wsSl_writeWords := gc0 (lw_t 542 rfl rfl)
abbrev cFr_copyFrom : ByteArray := prog_2_method_8_code
def yFr_copyFrom : MethodName := ⟨"SerialPlant$Frame", "copyFrom", "(LSerialPlant$Frame;)V"⟩
abbrev wsFr_copyFrom : List Cond := Cond.code yFr_copyFrom cFr_copyFrom 3 none :: lwG
set_option maxRecDepth 100000 in
theorem G0_Fr_copyFrom : GoodIn lwG wsFr_copyFrom := gc0 (lw_t 547 rfl rfl)
abbrev cSl_writeAnswer : ByteArray := prog_8_method_8_code
def ySl_writeAnswer : MethodName := ⟨"SerialPlant$Slave", "writeAnswer", "(LSerialPlant$Job;LSerialPlant$Frame;LSerialPlant$Frame;)V"⟩
abbrev wsSl_writeAnswer : List Cond := Cond.code ySl_writeAnswer cSl_writeAnswer 5 none :: lwG
set_option maxRecDepth 100000 in
theorem G0_Sl_writeAnswer : GoodIn lwG wsSl_writeAnswer := gc0 (lw_t 529 rfl rfl)
abbrev cPl_send : ByteArray := prog_1_method_26_code
def yPl_send : MethodName := ⟨"SerialPlant", "send", "(LSerialPlant$Line;)V"⟩
abbrev wsPl_send : List Cond := Cond.code yPl_send cPl_send 5 none :: lwG
set_option maxRecDepth 100000 in
theorem G0_Pl_send : GoodIn lwG wsPl_send := gc0 (lw_t 415 rfl rfl)
abbrev cPo_goUnanswered : ByteArray := prog_6_method_3_code
def yPo_goUnanswered : MethodName := ⟨"SerialPlant$Poll", "goUnanswered", "()V"⟩
abbrev wsPo_goUnanswered : List Cond := Cond.code yPo_goUnanswered cPo_goUnanswered 1 none :: lwG
set_option maxRecDepth 100000 in
theorem G0_Po_goUnanswered : GoodIn lwG wsPo_goUnanswered := gc0 (lw_t 558 rfl rfl)
abbrev cRe_goUnanswered : ByteArray := prog_7_method_4_code
def yRe_goUnanswered : MethodName := ⟨"SerialPlant$Request", "goUnanswered", "()V"⟩
abbrev wsRe_goUnanswered : List Cond := Cond.code yRe_goUnanswered cRe_goUnanswered 1 none :: lwG
set_option maxRecDepth 100000 in
theorem G0_Re_goUnanswered : GoodIn lwG wsRe_goUnanswered := gc0 (lw_t 561 rfl rfl)
abbrev cLi_giveUp : ByteArray := prog_5_method_9_code
def yLi_giveUp : MethodName := ⟨"SerialPlant$Line", "giveUp", "()V"⟩
abbrev wsLi_giveUp : List Cond := Cond.code yLi_giveUp cLi_giveUp 2 none :: lwG
set_option maxRecDepth 100000 in
theorem G0_Li_giveUp : GoodIn lwG wsLi_giveUp := gc0 (lw_t 551 rfl rfl)
abbrev cLi_startNext : ByteArray := prog_5_method_5_code
def yLi_startNext : MethodName := ⟨"SerialPlant$Line", "startNext", "()Z"⟩
abbrev wsLi_startNext : List Cond := Cond.code yLi_startNext cLi_startNext 2 (some .boolean) :: lwG
set_option maxRecDepth 100000 in
theorem G0_Li_startNext : GoodIn lwG wsLi_startNext := gc0 (lw_t 565 rfl rfl)
abbrev cPl_serve : ByteArray := prog_1_method_24_code
def yPl_serve : MethodName := ⟨"SerialPlant", "serve", "(LSerialPlant$Line;)V"⟩
abbrev wsPl_serve : List Cond := Cond.code yPl_serve cPl_serve 2 none :: lwG
set_option maxRecDepth 100000 in
theorem G0_Pl_serve : GoodIn lwG wsPl_serve := gc0 (lw_t 352 rfl rfl)
abbrev cPl_tick : ByteArray := prog_1_method_9_code
def yPl_tick : MethodName := ⟨"SerialPlant", "tick", "()I"⟩
abbrev wsPl_tick : List Cond := Cond.code yPl_tick cPl_tick 2 (some .int) :: lwG
set_option maxRecDepth 100000 in
theorem G0_Pl_tick : GoodIn lwG wsPl_tick := gc0 (lw_t 336 rfl rfl)
abbrev cPl_reply : ByteArray := prog_1_method_10_code
def yPl_reply : MethodName := ⟨"SerialPlant", "reply", "(II)J"⟩
abbrev wsPl_reply : List Cond := Cond.code yPl_reply cPl_reply 4 (some .long) :: lwG
set_option maxRecDepth 100000 in
theorem G0_Pl_reply : GoodIn lwG wsPl_reply := gc0 (lw_t 569 rfl rfl)
abbrev cPl_line : ByteArray := prog_1_method_11_code
def yPl_line : MethodName := ⟨"SerialPlant", "line", "(II)I"⟩
abbrev wsPl_line : List Cond := Cond.code yPl_line cPl_line 4 (some .int) :: lwG
set_option maxRecDepth 100000 in
theorem G0_Pl_line : GoodIn lwG wsPl_line := gc0 (lw_t 574 rfl rfl)
abbrev cPl_wire : ByteArray := prog_1_method_12_code
def yPl_wire : MethodName := ⟨"SerialPlant", "wire", "(IZI)I"⟩
abbrev wsPl_wire : List Cond := Cond.code yPl_wire cPl_wire 5 (some .int) :: lwG
set_option maxRecDepth 100000 in
theorem G0_Pl_wire : GoodIn lwG wsPl_wire := gc0 (lw_t 578 rfl rfl)
abbrev cHi_part : ByteArray := prog_3_method_3_code
def yHi_part : MethodName := ⟨"SerialPlant$History", "part", "(II)I"⟩
abbrev wsHi_part : List Cond := Cond.code yHi_part cHi_part 4 (some .int) :: lwG
set_option maxRecDepth 100000 in
theorem G0_Hi_part : GoodIn lwG wsHi_part := gc0 (lw_t 587 rfl rfl)
abbrev cPl_sample : ByteArray := prog_1_method_13_code
def yPl_sample : MethodName := ⟨"SerialPlant", "sample", "(II)I"⟩
abbrev wsPl_sample : List Cond := Cond.code yPl_sample cPl_sample 3 (some .int) :: lwG
set_option maxRecDepth 100000 in
theorem G0_Pl_sample : GoodIn lwG wsPl_sample := gc0 (lw_t 583 rfl rfl)
abbrev cHi_countOf : ByteArray := prog_3_method_4_code
def yHi_countOf : MethodName := ⟨"SerialPlant$History", "countOf", "(III)I"⟩
abbrev wsHi_countOf : List Cond := Cond.code yHi_countOf cHi_countOf 7 (some .int) :: lwG
set_option maxRecDepth 100000 in
theorem G0_Hi_countOf : GoodIn lwG wsHi_countOf := gc0 (lw_t 595 rfl rfl)
abbrev cPl_samples : ByteArray := prog_1_method_14_code
def yPl_samples : MethodName := ⟨"SerialPlant", "samples", "(III)I"⟩
abbrev wsPl_samples : List Cond := Cond.code yPl_samples cPl_samples 4 (some .int) :: lwG
set_option maxRecDepth 100000 in
theorem G0_Pl_samples : GoodIn lwG wsPl_samples := gc0 (lw_t 591 rfl rfl)
abbrev cMo_init : ByteArray := prog_11_method_1_code
def yMo_init : MethodName := ⟨"SerialPlantModel", "<init>", "()V"⟩
abbrev wsMo_init : List Cond := Cond.code yMo_init cMo_init 2 none :: lwG
set_option maxRecDepth 100000 in
theorem G0_Mo_init : GoodIn lwG wsMo_init := gc0 (lw_t 600 rfl rfl)
abbrev cMo_within : ByteArray := prog_11_method_2_code
def yMo_within : MethodName := ⟨"SerialPlantModel", "within", "(III)Z"⟩
abbrev wsMo_within : List Cond := Cond.code yMo_within cMo_within 3 (some .boolean) :: lwG
set_option maxRecDepth 100000 in
theorem G0_Mo_within : GoodIn lwG wsMo_within := gc0 (lw_t 734 rfl rfl)
abbrev cMo_attach : ByteArray := prog_11_method_3_code
def yMo_attach : MethodName := ⟨"SerialPlantModel", "attach", "(III)Z"⟩
abbrev wsMo_attach : List Cond := Cond.code yMo_attach cMo_attach 4 (some .boolean) :: lwG
set_option maxRecDepth 100000 in
theorem G0_Mo_attach : GoodIn lwG wsMo_attach := gc0 (lw_t 731 rfl rfl)
abbrev cMo_power : ByteArray := prog_11_method_4_code
def yMo_power : MethodName := ⟨"SerialPlantModel", "power", "(IZ)Z"⟩
abbrev wsMo_power : List Cond := Cond.code yMo_power cMo_power 3 (some .boolean) :: lwG
set_option maxRecDepth 100000 in
theorem G0_Mo_power : GoodIn lwG wsMo_power := gc0 (lw_t 738 rfl rfl)
abbrev cMo_place : ByteArray := prog_11_method_5_code
def yMo_place : MethodName := ⟨"SerialPlantModel", "place", "(III)Z"⟩
abbrev wsMo_place : List Cond := Cond.code yMo_place cMo_place 3 (some .boolean) :: lwG
set_option maxRecDepth 100000 in
theorem G0_Mo_place : GoodIn lwG wsMo_place := gc0 (lw_t 745 rfl rfl)
abbrev cMo_process : ByteArray := prog_11_method_6_code
def yMo_process : MethodName := ⟨"SerialPlantModel", "process", "(IIII)Z"⟩
abbrev wsMo_process : List Cond := Cond.code yMo_process cMo_process 5 (some .boolean) :: lwG
set_option maxRecDepth 100000 in
theorem G0_Mo_process : GoodIn lwG wsMo_process := gc0 (lw_t 742 rfl rfl)
abbrev cMo_cell : ByteArray := prog_11_method_7_code
def yMo_cell : MethodName := ⟨"SerialPlantModel", "cell", "(III)I"⟩
abbrev wsMo_cell : List Cond := Cond.code yMo_cell cMo_cell 4 (some .int) :: lwG
set_option maxRecDepth 100000 in
theorem G0_Mo_cell : GoodIn lwG wsMo_cell := gc0 (lw_t 750 rfl rfl)
abbrev cMo_point : ByteArray := prog_11_method_8_code
def yMo_point : MethodName := ⟨"SerialPlantModel", "point", "(III)I"⟩
abbrev wsMo_point : List Cond := Cond.code yMo_point cMo_point 4 (some .int) :: lwG
set_option maxRecDepth 100000 in
theorem G0_Mo_point : GoodIn lwG wsMo_point := gc0 (lw_t 754 rfl rfl)
abbrev cMo_put : ByteArray := prog_11_method_9_code
def yMo_put : MethodName := ⟨"SerialPlantModel", "put", "(II)V"⟩
abbrev wsMo_put : List Cond := Cond.code yMo_put cMo_put 3 none :: lwG
set_option maxRecDepth 100000 in
theorem G0_Mo_put : GoodIn lwG wsMo_put := gc0 (lw_t 762 rfl rfl)
abbrev cMo_request : ByteArray := prog_11_method_10_code
def yMo_request : MethodName := ⟨"SerialPlantModel", "request", "(IIIIJ)I"⟩
abbrev wsMo_request : List Cond := Cond.code yMo_request cMo_request 9 (some .int) :: lwG
set_option maxRecDepth 100000 in
theorem G0_Mo_request : GoodIn lwG wsMo_request := gc0 (lw_t 758 rfl rfl)
abbrev cMo_fault : ByteArray := prog_11_method_11_code
def yMo_fault : MethodName := ⟨"SerialPlantModel", "fault", "(IZI)Z"⟩
abbrev wsMo_fault : List Cond := Cond.code yMo_fault cMo_fault 4 (some .boolean) :: lwG
set_option maxRecDepth 100000 in
theorem G0_Mo_fault : GoodIn lwG wsMo_fault := gc0 (lw_t 766 rfl rfl)
abbrev cMo_add : ByteArray := prog_11_method_13_code
def yMo_add : MethodName := ⟨"SerialPlantModel", "add", "(II)V"⟩
abbrev wsMo_add : List Cond := Cond.code yMo_add cMo_add 3 none :: lwG
set_option maxRecDepth 100000 in
theorem G0_Mo_add : GoodIn lwG wsMo_add := gc0 (lw_t 810 rfl rfl)
abbrev cMo_begin : ByteArray := prog_11_method_12_code
def yMo_begin : MethodName := ⟨"SerialPlantModel", "begin", "(III)V"⟩
abbrev wsMo_begin : List Cond := Cond.code yMo_begin cMo_begin 4 none :: lwG
set_option maxRecDepth 100000 in
theorem G0_Mo_begin : GoodIn lwG wsMo_begin := gc0 (lw_t 806 rfl rfl)
abbrev cMo_addWord : ByteArray := prog_11_method_14_code
def yMo_addWord : MethodName := ⟨"SerialPlantModel", "addWord", "(II)V"⟩
abbrev wsMo_addWord : List Cond := Cond.code yMo_addWord cMo_addWord 3 none :: lwG
set_option maxRecDepth 100000 in
theorem G0_Mo_addWord : GoodIn lwG wsMo_addWord := gc0 (lw_t 814 rfl rfl)
abbrev cMo_addSum : ByteArray := prog_11_method_15_code
def yMo_addSum : MethodName := ⟨"SerialPlantModel", "addSum", "(I)V"⟩
abbrev wsMo_addSum : List Cond := Cond.code yMo_addSum cMo_addSum 5 none :: lwG
set_option maxRecDepth 100000 in
theorem G0_Mo_addSum : GoodIn lwG wsMo_addSum := gc0 (lw_t 830 rfl rfl)
abbrev cMo_word : ByteArray := prog_11_method_16_code
def yMo_word : MethodName := ⟨"SerialPlantModel", "word", "(JI)I"⟩
abbrev wsMo_word : List Cond := Cond.code yMo_word cMo_word 3 (some .int) :: lwG
set_option maxRecDepth 100000 in
theorem G0_Mo_word : GoodIn lwG wsMo_word := gc0 (lw_t 817 rfl rfl)
abbrev cMo_addBits : ByteArray := prog_11_method_17_code
def yMo_addBits : MethodName := ⟨"SerialPlantModel", "addBits", "(IJI)V"⟩
abbrev wsMo_addBits : List Cond := Cond.code yMo_addBits cMo_addBits 9 none :: lwG
set_option maxRecDepth 100000 in
theorem G0_Mo_addBits : GoodIn lwG wsMo_addBits := gc0 (lw_t 822 rfl rfl)
abbrev cMo_addWords : ByteArray := prog_11_method_18_code
def yMo_addWords : MethodName := ⟨"SerialPlantModel", "addWords", "(IJI)V"⟩
abbrev wsMo_addWords : List Cond := Cond.code yMo_addWords cMo_addWords 6 none :: lwG
set_option maxRecDepth 100000 in
theorem G0_Mo_addWords : GoodIn lwG wsMo_addWords := gc0 (lw_t 826 rfl rfl)
abbrev cMo_writeRequest : ByteArray := prog_11_method_19_code
def yMo_writeRequest : MethodName := ⟨"SerialPlantModel", "writeRequest", "(IIIIIJ)V"⟩
abbrev wsMo_writeRequest : List Cond := Cond.code yMo_writeRequest cMo_writeRequest 10 none :: lwG
set_option maxRecDepth 100000 in
theorem G0_Mo_writeRequest : GoodIn lwG wsMo_writeRequest := gc0 (lw_t 802 rfl rfl)
abbrev cMo_writeAnswer : ByteArray := prog_11_method_20_code
def yMo_writeAnswer : MethodName := ⟨"SerialPlantModel", "writeAnswer", "(IIIIIJ)V"⟩
abbrev wsMo_writeAnswer : List Cond := Cond.code yMo_writeAnswer cMo_writeAnswer 9 none :: lwG
set_option maxRecDepth 100000 in
theorem G0_Mo_writeAnswer : GoodIn lwG wsMo_writeAnswer := gc0 (lw_t 855 rfl rfl)
abbrev cMo_wrong : ByteArray := prog_11_method_21_code
def yMo_wrong : MethodName := ⟨"SerialPlantModel", "wrong", "(IIIJ)I"⟩
abbrev wsMo_wrong : List Cond := Cond.code yMo_wrong cMo_wrong 10 (some .int) :: lwG
set_option maxRecDepth 100000 in
theorem G0_Mo_wrong : GoodIn lwG wsMo_wrong := gc0 (lw_t 838 rfl rfl)
abbrev cMo_read : ByteArray := prog_11_method_22_code
def yMo_read : MethodName := ⟨"SerialPlantModel", "read", "(IIII)J"⟩
abbrev wsMo_read : List Cond := Cond.code yMo_read cMo_read 9 (some .long) :: lwG
set_option maxRecDepth 100000 in
theorem G0_Mo_read : GoodIn lwG wsMo_read := gc0 (lw_t 851 rfl rfl)
abbrev cMo_write : ByteArray := prog_11_method_23_code
def yMo_write : MethodName := ⟨"SerialPlantModel", "write", "(IIIIJ)V"⟩
abbrev wsMo_write : List Cond := Cond.code yMo_write cMo_write 8 none :: lwG
set_option maxRecDepth 100000 in
theorem G0_Mo_write : GoodIn lwG wsMo_write := gc0 (lw_t 847 rfl rfl)
abbrev cMo_act : ByteArray := prog_11_method_24_code
def yMo_act : MethodName := ⟨"SerialPlantModel", "act", "(IIIIJ)V"⟩
abbrev wsMo_act : List Cond := Cond.code yMo_act cMo_act 9 none :: lwG
set_option maxRecDepth 100000 in
theorem G0_Mo_act : GoodIn lwG wsMo_act := gc0 (lw_t 843 rfl rfl)
abbrev cMo_gets : ByteArray := prog_11_method_25_code
def yMo_gets : MethodName := ⟨"SerialPlantModel", "gets", "(IIIIJZ)Z"⟩
abbrev wsMo_gets : List Cond := Cond.code yMo_gets cMo_gets 9 (some .boolean) :: lwG
set_option maxRecDepth 100000 in
theorem G0_Mo_gets : GoodIn lwG wsMo_gets := gc0 (lw_t 835 rfl rfl)
abbrev cMo_isBroadcast : ByteArray := prog_11_method_26_code
def yMo_isBroadcast : MethodName := ⟨"SerialPlantModel", "isBroadcast", "(I)Z"⟩
abbrev wsMo_isBroadcast : List Cond := Cond.code yMo_isBroadcast cMo_isBroadcast 2 (some .boolean) :: lwG
set_option maxRecDepth 100000 in
theorem G0_Mo_isBroadcast : GoodIn lwG wsMo_isBroadcast := gc0 (lw_t 790 rfl rfl)
abbrev cMo_take : ByteArray := prog_11_method_30_code
def yMo_take : MethodName := ⟨"SerialPlantModel", "take", "(II)V"⟩
abbrev wsMo_take : List Cond := Cond.code yMo_take cMo_take 4 none :: lwG
set_option maxRecDepth 100000 in
theorem G0_Mo_take : GoodIn lwG wsMo_take := gc0 (lw_t 786 rfl rfl)
abbrev cMo_comes : ByteArray := prog_11_method_29_code
def yMo_comes : MethodName := ⟨"SerialPlantModel", "comes", "(I)V"⟩
abbrev wsMo_comes : List Cond := Cond.code yMo_comes cMo_comes 3 none :: lwG
set_option maxRecDepth 100000 in
theorem G0_Mo_comes : GoodIn lwG wsMo_comes := gc0 (lw_t 782 rfl rfl)
abbrev cMo_carry : ByteArray := prog_11_method_28_code
def yMo_carry : MethodName := ⟨"SerialPlantModel", "carry", "(IIIIIJ)V"⟩
abbrev wsMo_carry : List Cond := Cond.code yMo_carry cMo_carry 10 none :: lwG
set_option maxRecDepth 100000 in
theorem G0_Mo_carry : GoodIn lwG wsMo_carry := gc0 (lw_t 798 rfl rfl)
abbrev cMo_send : ByteArray := prog_11_method_27_code
def yMo_send : MethodName := ⟨"SerialPlantModel", "send", "(I)V"⟩
abbrev wsMo_send : List Cond := Cond.code yMo_send cMo_send 3 none :: lwG
set_option maxRecDepth 100000 in
theorem G0_Mo_send : GoodIn lwG wsMo_send := gc0 (lw_t 794 rfl rfl)
abbrev cMo_polls : ByteArray := prog_11_method_31_code
def yMo_polls : MethodName := ⟨"SerialPlantModel", "polls", "(II)Z"⟩
abbrev wsMo_polls : List Cond := Cond.code yMo_polls cMo_polls 5 (some .boolean) :: lwG
set_option maxRecDepth 100000 in
theorem G0_Mo_polls : GoodIn lwG wsMo_polls := gc0 (lw_t 774 rfl rfl)
abbrev cMo_goOn : ByteArray := prog_11_method_32_code
def yMo_goOn : MethodName := ⟨"SerialPlantModel", "goOn", "(I)V"⟩
abbrev wsMo_goOn : List Cond := Cond.code yMo_goOn cMo_goOn 4 none :: lwG
set_option maxRecDepth 100000 in
theorem G0_Mo_goOn : GoodIn lwG wsMo_goOn := gc0 (lw_t 778 rfl rfl)
abbrev cMo_begins : ByteArray := prog_11_method_33_code
def yMo_begins : MethodName := ⟨"SerialPlantModel", "begins", "(I)V"⟩
abbrev wsMo_begins : List Cond := Cond.code yMo_begins cMo_begins 3 none :: lwG
set_option maxRecDepth 100000 in
theorem G0_Mo_begins : GoodIn lwG wsMo_begins := gc0 (lw_t 859 rfl rfl)
abbrev cMo_tick : ByteArray := prog_11_method_34_code
def yMo_tick : MethodName := ⟨"SerialPlantModel", "tick", "()I"⟩
abbrev wsMo_tick : List Cond := Cond.code yMo_tick cMo_tick 3 (some .int) :: lwG
set_option maxRecDepth 100000 in
theorem G0_Mo_tick : GoodIn lwG wsMo_tick := gc0 (lw_t 770 rfl rfl)
abbrev cMo_reply : ByteArray := prog_11_method_35_code
def yMo_reply : MethodName := ⟨"SerialPlantModel", "reply", "(II)J"⟩
abbrev wsMo_reply : List Cond := Cond.code yMo_reply cMo_reply 3 (some .long) :: lwG
set_option maxRecDepth 100000 in
theorem G0_Mo_reply : GoodIn lwG wsMo_reply := gc0 (lw_t 863 rfl rfl)
abbrev cMo_line : ByteArray := prog_11_method_36_code
def yMo_line : MethodName := ⟨"SerialPlantModel", "line", "(II)I"⟩
abbrev wsMo_line : List Cond := Cond.code yMo_line cMo_line 3 (some .int) :: lwG
set_option maxRecDepth 100000 in
theorem G0_Mo_line : GoodIn lwG wsMo_line := gc0 (lw_t 868 rfl rfl)
abbrev cMo_wire : ByteArray := prog_11_method_37_code
def yMo_wire : MethodName := ⟨"SerialPlantModel", "wire", "(IZI)I"⟩
abbrev wsMo_wire : List Cond := Cond.code yMo_wire cMo_wire 5 (some .int) :: lwG
set_option maxRecDepth 100000 in
theorem G0_Mo_wire : GoodIn lwG wsMo_wire := gc0 (lw_t 872 rfl rfl)
abbrev cMo_sample : ByteArray := prog_11_method_38_code
def yMo_sample : MethodName := ⟨"SerialPlantModel", "sample", "(II)I"⟩
abbrev wsMo_sample : List Cond := Cond.code yMo_sample cMo_sample 3 (some .int) :: lwG
set_option maxRecDepth 100000 in
theorem G0_Mo_sample : GoodIn lwG wsMo_sample := gc0 (lw_t 876 rfl rfl)
abbrev cMo_samples : ByteArray := prog_11_method_39_code
def yMo_samples : MethodName := ⟨"SerialPlantModel", "samples", "(III)I"⟩
abbrev wsMo_samples : List Cond := Cond.code yMo_samples cMo_samples 7 (some .int) :: lwG
set_option maxRecDepth 100000 in
theorem G0_Mo_samples : GoodIn lwG wsMo_samples := gc0 (lw_t 880 rfl rfl)
theorem GS_Pl_44 : GoodIn lwG (wsS "SerialPlant" 44 yPl_isSlave wsPl_isSlave) := gcA (m1 w_187 (m1 w_188 (m1 w_1 m0))) G0_Pl_isSlave
theorem GS_Pl_48 : GoodIn lwG (wsS "SerialPlant" 48 yPl_isLine wsPl_isLine) := gcA (m1 w_190 (m1 w_191 (m1 w_1 m0))) G0_Pl_isLine
theorem GS_Pl_51 : GoodIn lwG (wsS "SerialPlant" 51 yPl_isWithin wsPl_isWithin) := gcA (m1 w_193 (m1 w_194 (m1 w_1 m0))) G0_Pl_isWithin
theorem GV_Pl_55_Sl : GoodIn lwG (wsV "SerialPlant" 55 "SerialPlant$Slave" ySl_isAttached wsSl_isAttached) := gcA (m1 w_196 (m1 w_197 (m1 w_198 (m1 w_2 m0)))) G0_Sl_isAttached
theorem GV_Pl_70_Sl : GoodIn lwG (wsV "SerialPlant" 70 "SerialPlant$Slave" ySl_tableOf wsSl_tableOf) := gcA (m1 w_208 (m1 w_209 (m1 w_210 (m1 w_2 m0)))) G0_Sl_tableOf
theorem GS_Pl_75 : GoodIn lwG (wsS "SerialPlant" 75 yPl_isPlace wsPl_isPlace) := gcA (m1 w_213 (m1 w_214 (m1 w_1 m0))) G0_Pl_isPlace
theorem GV_Pl_79_Pl : GoodIn lwG (wsV "SerialPlant" 79 "SerialPlant" yPl_isAttachedSlave wsPl_isAttachedSlave) := gcA (m1 w_224 (m1 w_226 (m1 wp_0 (m1 w_1 m0)))) G0_Pl_isAttachedSlave
theorem GV_Pl_168_Li : GoodIn lwG (wsV "SerialPlant" 168 "SerialPlant$Line" yLi_enqueue wsLi_enqueue) := gcA (m1 w_309 (m1 w_310 (m1 w_311 (m1 w_3 m0)))) G0_Li_enqueue
theorem GU_Pl_165_Re : GoodIn lwG (va_wsU "SerialPlant" 165 "SerialPlant$Request" "SerialPlant$Job" ⟨"SerialPlant$Request", "isBroadcast", "()Z"⟩ yJo_isBroadcast wsJo_isBroadcast) := gcA (m1 w_303 (m1 w_304 (m1 w_306 (m1 w_307 (m1 w_8 m0))))) G0_Jo_isBroadcast
theorem GV_Pl_172_Pl : GoodIn lwG (wsV "SerialPlant" 172 "SerialPlant" yPl_enqueue wsPl_enqueue) := gcA (m1 w_313 (m1 w_315 (m1 wp_2 (m1 w_1 m0)))) G0_Pl_enqueue
theorem GV_Pl_173_Re : GoodIn lwG (wsV "SerialPlant" 173 "SerialPlant$Request" yRe_refuse wsRe_refuse) := gcA (m1 w_317 (m1 w_318 (m1 w_319 (m1 w_10 m0)))) G0_Re_refuse
theorem GV_Pl_94_Pl : GoodIn lwG (wsV "SerialPlant" 94 "SerialPlant" yPl_accept wsPl_accept) := gcA (m1 w_299 (m1 w_301 (m1 wp_1 (m1 w_1 m0)))) G0_Pl_accept
theorem GV_Pl_98_Li : GoodIn lwG (wsV "SerialPlant" 98 "SerialPlant$Line" yLi_wayOf wsLi_wayOf) := gcA (m1 w_325 (m1 w_326 (m1 w_327 (m1 w_3 m0)))) G0_Li_wayOf
theorem GV_Pl_102_Wa : GoodIn lwG (wsV "SerialPlant" 102 "SerialPlant$Way" yWa_plantFault wsWa_plantFault) := gcA (m1 w_329 (m1 w_330 (m1 w_331 (m1 w_4 m0)))) G0_Wa_plantFault
theorem GV_Pl_182_Li : GoodIn lwG (wsV "SerialPlant" 182 "SerialPlant$Line" yLi_has wsLi_has) := gcA (m1 w_345 (m1 w_346 (m1 w_347 (m1 w_3 m0)))) G0_Li_has
theorem GV_Pl_179_Pl : GoodIn lwG (wsV "SerialPlant" 179 "SerialPlant" yPl_isOnItsWay wsPl_isOnItsWay) := gcA (m1 w_341 (m1 w_343 (m1 wp_4 (m1 w_1 m0)))) G0_Pl_isOnItsWay
theorem GV_Po_19_Fr : GoodIn lwG (wsV "SerialPlant$Poll" 19 "SerialPlant$Frame" yFr_byteAt wsFr_byteAt) := gcA (m1 w_367 (m1 w_368 (m1 w_369 (m1 w_5 m0)))) G0_Fr_byteAt
theorem GV_Po_25_Fr : GoodIn lwG (wsV "SerialPlant$Poll" 25 "SerialPlant$Frame" yFr_wordAt wsFr_wordAt) := gcA (m1 w_371 (m1 w_372 (m1 w_373 (m1 w_5 m0)))) G0_Fr_wordAt
theorem GV_Po_28_Hi : GoodIn lwG (wsV "SerialPlant$Poll" 28 "SerialPlant$History" yHi_keep wsHi_keep) := gcA (m1 w_375 (m1 w_376 (m1 w_377 (m1 w_6 m0)))) G0_Hi_keep
theorem GU_Re_48_Re : GoodIn lwG (va_wsU "SerialPlant$Request" 48 "SerialPlant$Request" "SerialPlant$Job" ⟨"SerialPlant$Request", "bitBytes", "()I"⟩ yJo_bitBytes wsJo_bitBytes) := gcA (m1 w_392 (m1 w_393 (m1 w_395 (m1 w_396 (m1 w_8 m0))))) G0_Jo_bitBytes
theorem GV_Re_18_Fr : GoodIn lwG (wsV "SerialPlant$Request" 18 "SerialPlant$Frame" yFr_byteAt wsFr_byteAt) := gcA (m1 w_382 (m1 w_368 (m1 w_369 (m1 w_5 m0)))) G0_Fr_byteAt
theorem GV_Re_45_Fr : GoodIn lwG (wsV "SerialPlant$Request" 45 "SerialPlant$Frame" yFr_wordAt wsFr_wordAt) := gcA (m1 w_402 (m1 w_372 (m1 w_373 (m1 w_5 m0)))) G0_Fr_wordAt
theorem GV_Re_39_Re : GoodIn lwG (wsV "SerialPlant$Request" 39 "SerialPlant$Request" yRe_readBits wsRe_readBits) := gcA (m1 w_388 (m1 w_389 (m1 w_390 (m1 w_10 m0)))) G0_Re_readBits
theorem GV_Re_42_Re : GoodIn lwG (wsV "SerialPlant$Request" 42 "SerialPlant$Request" yRe_readWords wsRe_readWords) := gcA (m1 w_398 (m1 w_399 (m1 w_400 (m1 w_10 m0)))) G0_Re_readWords
theorem GV_Re_28_Re : GoodIn lwG (wsV "SerialPlant$Request" 28 "SerialPlant$Request" yRe_read wsRe_read) := gcA (m1 w_384 (m1 w_385 (m1 w_386 (m1 w_10 m0)))) G0_Re_read
theorem GV_Re_24_Re : GoodIn lwG (wsV "SerialPlant$Request" 24 "SerialPlant$Request" yRe_refuse wsRe_refuse) := gcA (m1 w_383 (m1 w_318 (m1 w_319 (m1 w_10 m0)))) G0_Re_refuse
theorem GV_Pl_206_Li : GoodIn lwG (wsV "SerialPlant" 206 "SerialPlant$Line" yLi_release wsLi_release) := gcA (m1 w_357 (m1 w_358 (m1 w_359 (m1 w_3 m0)))) G0_Li_release
theorem GU_Pl_213_Po : GoodIn lwG (va_wsU "SerialPlant" 213 "SerialPlant$Poll" "SerialPlant$Job" ⟨"SerialPlant$Job", "take", "(LSerialPlant$Frame;I)V"⟩ yPo_take wsPo_take) := gcA (m1 w_361 (m1 w_363 (m1 w_364 (m1 w_365 (m1 w_9 m0))))) G0_Po_take
theorem GU_Pl_213_Re : GoodIn lwG (va_wsU "SerialPlant" 213 "SerialPlant$Request" "SerialPlant$Job" ⟨"SerialPlant$Job", "take", "(LSerialPlant$Frame;I)V"⟩ yRe_take wsRe_take) := gcA (m1 w_361 (m1 w_363 (m1 w_379 (m1 w_380 (m1 w_10 m0))))) G0_Re_take
theorem GU_Li_47_Po : GoodIn lwG (va_wsU "SerialPlant$Line" 47 "SerialPlant$Poll" "SerialPlant$Job" ⟨"SerialPlant$Job", "isBroadcast", "()Z"⟩ yJo_isBroadcast wsJo_isBroadcast) := gcA (m1 w_407 (m1 w_882 (m1 w_883 (m1 w_307 (m1 w_8 m0))))) G0_Jo_isBroadcast
theorem GU_Li_47_Re : GoodIn lwG (va_wsU "SerialPlant$Line" 47 "SerialPlant$Request" "SerialPlant$Job" ⟨"SerialPlant$Job", "isBroadcast", "()Z"⟩ yJo_isBroadcast wsJo_isBroadcast) := gcA (m1 w_407 (m1 w_882 (m1 w_884 (m1 w_307 (m1 w_8 m0))))) G0_Jo_isBroadcast
theorem GV_Fr_19_Fr : GoodIn lwG (wsV "SerialPlant$Frame" 19 "SerialPlant$Frame" yFr_addByte wsFr_addByte) := gcA (m1 w_430 (m1 w_431 (m1 w_432 (m1 w_5 m0)))) G0_Fr_addByte
theorem GU_Jo_65_Po : GoodIn lwG (va_wsU "SerialPlant$Job" 65 "SerialPlant$Poll" "SerialPlant$Job" ⟨"SerialPlant$Job", "bitBytes", "()I"⟩ yJo_bitBytes wsJo_bitBytes) := gcA (m1 w_451 (m1 w_885 (m1 w_886 (m1 w_396 (m1 w_8 m0))))) G0_Jo_bitBytes
theorem GU_Jo_65_Re : GoodIn lwG (va_wsU "SerialPlant$Job" 65 "SerialPlant$Request" "SerialPlant$Job" ⟨"SerialPlant$Job", "bitBytes", "()I"⟩ yJo_bitBytes wsJo_bitBytes) := gcA (m1 w_451 (m1 w_885 (m1 w_887 (m1 w_396 (m1 w_8 m0))))) G0_Jo_bitBytes
theorem GV_Jo_69_Fr : GoodIn lwG (wsV "SerialPlant$Job" 69 "SerialPlant$Frame" yFr_addByte wsFr_addByte) := gcA (m1 w_452 (m1 w_431 (m1 w_432 (m1 w_5 m0)))) G0_Fr_addByte
theorem GU_Jo_36_Po : GoodIn lwG (va_wsU "SerialPlant$Job" 36 "SerialPlant$Poll" "SerialPlant$Job" ⟨"SerialPlant$Job", "word", "(I)I"⟩ yJo_word wsJo_word) := gcA (m1 w_438 (m1 w_440 (m1 w_441 (m1 w_439 (m1 w_8 m0))))) G0_Jo_word
theorem GU_Jo_36_Re : GoodIn lwG (va_wsU "SerialPlant$Job" 36 "SerialPlant$Request" "SerialPlant$Job" ⟨"SerialPlant$Job", "word", "(I)I"⟩ yJo_word wsJo_word) := gcA (m1 w_438 (m1 w_440 (m1 w_442 (m1 w_439 (m1 w_8 m0))))) G0_Jo_word
theorem GV_Jo_51_Fr : GoodIn lwG (wsV "SerialPlant$Job" 51 "SerialPlant$Frame" yFr_addWord wsFr_addWord) := gcA (m1 w_434 (m1 w_435 (m1 w_436 (m1 w_5 m0)))) G0_Fr_addWord
theorem GV_Jo_45_Fr : GoodIn lwG (wsV "SerialPlant$Job" 45 "SerialPlant$Frame" yFr_begin wsFr_begin) := gcA (m1 w_426 (m1 w_427 (m1 w_428 (m1 w_5 m0)))) G0_Fr_begin
theorem GU_Jo_55_Po : GoodIn lwG (va_wsU "SerialPlant$Job" 55 "SerialPlant$Poll" "SerialPlant$Job" ⟨"SerialPlant$Job", "addBits", "(LSerialPlant$Frame;)V"⟩ yJo_addBits wsJo_addBits) := gcA (m1 w_445 (m1 w_447 (m1 w_448 (m1 w_446 (m1 w_8 m0))))) G0_Jo_addBits
theorem GU_Jo_55_Re : GoodIn lwG (va_wsU "SerialPlant$Job" 55 "SerialPlant$Request" "SerialPlant$Job" ⟨"SerialPlant$Job", "addBits", "(LSerialPlant$Frame;)V"⟩ yJo_addBits wsJo_addBits) := gcA (m1 w_445 (m1 w_447 (m1 w_449 (m1 w_446 (m1 w_8 m0))))) G0_Jo_addBits
theorem GU_Jo_59_Po : GoodIn lwG (va_wsU "SerialPlant$Job" 59 "SerialPlant$Poll" "SerialPlant$Job" ⟨"SerialPlant$Job", "addWords", "(LSerialPlant$Frame;)V"⟩ yJo_addWords wsJo_addWords) := gcA (m1 w_453 (m1 w_455 (m1 w_456 (m1 w_454 (m1 w_8 m0))))) G0_Jo_addWords
theorem GU_Jo_59_Re : GoodIn lwG (va_wsU "SerialPlant$Job" 59 "SerialPlant$Request" "SerialPlant$Job" ⟨"SerialPlant$Job", "addWords", "(LSerialPlant$Frame;)V"⟩ yJo_addWords wsJo_addWords) := gcA (m1 w_453 (m1 w_455 (m1 w_457 (m1 w_454 (m1 w_8 m0))))) G0_Jo_addWords
theorem GV_Jo_62_Fr : GoodIn lwG (wsV "SerialPlant$Job" 62 "SerialPlant$Frame" yFr_addSum wsFr_addSum) := gcA (m1 w_459 (m1 w_460 (m1 w_461 (m1 w_5 m0)))) G0_Fr_addSum
theorem GU_Sl_35_Po : GoodIn lwG (va_wsU "SerialPlant$Slave" 35 "SerialPlant$Poll" "SerialPlant$Job" ⟨"SerialPlant$Job", "isBroadcast", "()Z"⟩ yJo_isBroadcast wsJo_isBroadcast) := gcA (m1 w_477 (m1 w_882 (m1 w_883 (m1 w_307 (m1 w_8 m0))))) G0_Jo_isBroadcast
theorem GU_Sl_35_Re : GoodIn lwG (va_wsU "SerialPlant$Slave" 35 "SerialPlant$Request" "SerialPlant$Job" ⟨"SerialPlant$Job", "isBroadcast", "()Z"⟩ yJo_isBroadcast wsJo_isBroadcast) := gcA (m1 w_477 (m1 w_882 (m1 w_884 (m1 w_307 (m1 w_8 m0))))) G0_Jo_isBroadcast
theorem GU_Jo_32_Po : GoodIn lwG (va_wsU "SerialPlant$Job" 32 "SerialPlant$Poll" "SerialPlant$Job" ⟨"SerialPlant$Job", "spanRefusal", "(II)I"⟩ yJo_spanRefusal wsJo_spanRefusal) := gcA (m1 w_488 (m1 w_490 (m1 w_491 (m1 w_489 (m1 w_8 m0))))) G0_Jo_spanRefusal
theorem GU_Jo_32_Re : GoodIn lwG (va_wsU "SerialPlant$Job" 32 "SerialPlant$Request" "SerialPlant$Job" ⟨"SerialPlant$Job", "spanRefusal", "(II)I"⟩ yJo_spanRefusal wsJo_spanRefusal) := gcA (m1 w_488 (m1 w_490 (m1 w_492 (m1 w_489 (m1 w_8 m0))))) G0_Jo_spanRefusal
theorem GU_Jo_41_Po : GoodIn lwG (va_wsU "SerialPlant$Job" 41 "SerialPlant$Poll" "SerialPlant$Job" ⟨"SerialPlant$Job", "isKnownKind", "()Z"⟩ yJo_isKnownKind wsJo_isKnownKind) := gcA (m1 w_495 (m1 w_497 (m1 w_498 (m1 w_496 (m1 w_8 m0))))) G0_Jo_isKnownKind
theorem GU_Jo_41_Re : GoodIn lwG (va_wsU "SerialPlant$Job" 41 "SerialPlant$Request" "SerialPlant$Job" ⟨"SerialPlant$Job", "isKnownKind", "()Z"⟩ yJo_isKnownKind wsJo_isKnownKind) := gcA (m1 w_495 (m1 w_497 (m1 w_499 (m1 w_496 (m1 w_8 m0))))) G0_Jo_isKnownKind
theorem GU_Sl_61_Po : GoodIn lwG (va_wsU "SerialPlant$Slave" 61 "SerialPlant$Poll" "SerialPlant$Job" ⟨"SerialPlant$Job", "word", "(I)I"⟩ yJo_word wsJo_word) := gcA (m1 w_505 (m1 w_440 (m1 w_441 (m1 w_439 (m1 w_8 m0))))) G0_Jo_word
theorem GU_Sl_61_Re : GoodIn lwG (va_wsU "SerialPlant$Slave" 61 "SerialPlant$Request" "SerialPlant$Job" ⟨"SerialPlant$Job", "word", "(I)I"⟩ yJo_word wsJo_word) := gcA (m1 w_505 (m1 w_440 (m1 w_442 (m1 w_439 (m1 w_8 m0))))) G0_Jo_word
theorem GS_Sl_66 : GoodIn lwG (wsS "SerialPlant$Slave" 66 ySl_put wsSl_put) := gcA (m1 w_507 (m1 w_508 (m1 w_2 m0))) G0_Sl_put
theorem GV_Sl_84_Sl : GoodIn lwG (wsV "SerialPlant$Slave" 84 "SerialPlant$Slave" ySl_changeMode wsSl_changeMode) := gcA (m1 w_522 (m1 w_523 (m1 w_524 (m1 w_2 m0)))) G0_Sl_changeMode
theorem GU_Sl_81_Po : GoodIn lwG (va_wsU "SerialPlant$Slave" 81 "SerialPlant$Poll" "SerialPlant$Job" ⟨"SerialPlant$Job", "bit", "(I)I"⟩ yJo_bit wsJo_bit) := gcA (m1 w_516 (m1 w_518 (m1 w_519 (m1 w_517 (m1 w_8 m0))))) G0_Jo_bit
theorem GU_Sl_81_Re : GoodIn lwG (va_wsU "SerialPlant$Slave" 81 "SerialPlant$Request" "SerialPlant$Job" ⟨"SerialPlant$Job", "bit", "(I)I"⟩ yJo_bit wsJo_bit) := gcA (m1 w_516 (m1 w_518 (m1 w_520 (m1 w_517 (m1 w_8 m0))))) G0_Jo_bit
theorem GS_Sl_70 : GoodIn lwG (wsS "SerialPlant$Slave" 70 ySl_get wsSl_get) := gcA (m1 w_510 (m1 w_511 (m1 w_2 m0))) G0_Sl_get
theorem GS_Sl_74 : GoodIn lwG (wsS "SerialPlant$Slave" 74 ySl_masked wsSl_masked) := gcA (m1 w_513 (m1 w_514 (m1 w_2 m0))) G0_Sl_masked
theorem GU_Sl_50_Po : GoodIn lwG (va_wsU "SerialPlant$Slave" 50 "SerialPlant$Poll" "SerialPlant$Job" ⟨"SerialPlant$Job", "refusal", "()I"⟩ yJo_refusal wsJo_refusal) := gcA (m1 w_482 (m1 w_484 (m1 w_485 (m1 w_483 (m1 w_8 m0))))) G0_Jo_refusal
theorem GU_Sl_50_Re : GoodIn lwG (va_wsU "SerialPlant$Slave" 50 "SerialPlant$Request" "SerialPlant$Job" ⟨"SerialPlant$Job", "refusal", "()I"⟩ yJo_refusal wsJo_refusal) := gcA (m1 w_482 (m1 w_484 (m1 w_486 (m1 w_483 (m1 w_8 m0))))) G0_Jo_refusal
theorem GV_Sl_54_Sl : GoodIn lwG (wsV "SerialPlant$Slave" 54 "SerialPlant$Slave" ySl_carryOut wsSl_carryOut) := gcA (m1 w_501 (m1 w_502 (m1 w_503 (m1 w_2 m0)))) G0_Sl_carryOut
theorem GV_Pl_238_Sl : GoodIn lwG (wsV "SerialPlant" 238 "SerialPlant$Slave" ySl_isMeantBy wsSl_isMeantBy) := gcA (m1 w_473 (m1 w_474 (m1 w_475 (m1 w_2 m0)))) G0_Sl_isMeantBy
theorem GV_Pl_241_Sl : GoodIn lwG (wsV "SerialPlant" 241 "SerialPlant$Slave" ySl_obey wsSl_obey) := gcA (m1 w_478 (m1 w_479 (m1 w_480 (m1 w_2 m0)))) G0_Sl_obey
theorem GV_Sl_114_Sl : GoodIn lwG (wsV "SerialPlant$Slave" 114 "SerialPlant$Slave" ySl_tableOf wsSl_tableOf) := gcA (m1 w_537 (m1 w_209 (m1 w_210 (m1 w_2 m0)))) G0_Sl_tableOf
theorem GV_Sl_88_Fr : GoodIn lwG (wsV "SerialPlant$Slave" 88 "SerialPlant$Frame" yFr_begin wsFr_begin) := gcA (m1 w_530 (m1 w_427 (m1 w_428 (m1 w_5 m0)))) G0_Fr_begin
theorem GU_Sl_118_Po : GoodIn lwG (va_wsU "SerialPlant$Slave" 118 "SerialPlant$Poll" "SerialPlant$Job" ⟨"SerialPlant$Job", "bitBytes", "()I"⟩ yJo_bitBytes wsJo_bitBytes) := gcA (m1 w_538 (m1 w_885 (m1 w_886 (m1 w_396 (m1 w_8 m0))))) G0_Jo_bitBytes
theorem GU_Sl_118_Re : GoodIn lwG (va_wsU "SerialPlant$Slave" 118 "SerialPlant$Request" "SerialPlant$Job" ⟨"SerialPlant$Job", "bitBytes", "()I"⟩ yJo_bitBytes wsJo_bitBytes) := gcA (m1 w_538 (m1 w_885 (m1 w_887 (m1 w_396 (m1 w_8 m0))))) G0_Jo_bitBytes
theorem GV_Sl_94_Fr : GoodIn lwG (wsV "SerialPlant$Slave" 94 "SerialPlant$Frame" yFr_addByte wsFr_addByte) := gcA (m1 w_531 (m1 w_431 (m1 w_432 (m1 w_5 m0)))) G0_Fr_addByte
theorem GV_Sl_97_Fr : GoodIn lwG (wsV "SerialPlant$Slave" 97 "SerialPlant$Frame" yFr_addSum wsFr_addSum) := gcA (m1 w_532 (m1 w_460 (m1 w_461 (m1 w_5 m0)))) G0_Fr_addSum
theorem GV_Sl_107_Fr : GoodIn lwG (wsV "SerialPlant$Slave" 107 "SerialPlant$Frame" yFr_addWord wsFr_addWord) := gcA (m1 w_543 (m1 w_435 (m1 w_436 (m1 w_5 m0)))) G0_Fr_addWord
theorem GV_Sl_100_Sl : GoodIn lwG (wsV "SerialPlant$Slave" 100 "SerialPlant$Slave" ySl_writeBits wsSl_writeBits) := gcA (m1 w_533 (m1 w_534 (m1 w_535 (m1 w_2 m0)))) G0_Sl_writeBits
theorem GV_Sl_104_Sl : GoodIn lwG (wsV "SerialPlant$Slave" 104 "SerialPlant$Slave" ySl_writeWords wsSl_writeWords) := gcA (m1 w_539 (m1 w_540 (m1 w_541 (m1 w_2 m0)))) G0_Sl_writeWords
theorem GV_Sl_110_Fr : GoodIn lwG (wsV "SerialPlant$Slave" 110 "SerialPlant$Frame" yFr_copyFrom wsFr_copyFrom) := gcA (m1 w_544 (m1 w_545 (m1 w_546 (m1 w_5 m0)))) G0_Fr_copyFrom
theorem GV_Pl_217_Li : GoodIn lwG (wsV "SerialPlant" 217 "SerialPlant$Line" yLi_markSending wsLi_markSending) := gcA (m1 w_416 (m1 w_417 (m1 w_418 (m1 w_3 m0)))) G0_Li_markSending
theorem GU_Pl_222_Po : GoodIn lwG (va_wsU "SerialPlant" 222 "SerialPlant$Poll" "SerialPlant$Job" ⟨"SerialPlant$Job", "writeTo", "(LSerialPlant$Frame;)V"⟩ yJo_writeTo wsJo_writeTo) := gcA (m1 w_420 (m1 w_422 (m1 w_423 (m1 w_421 (m1 w_8 m0))))) G0_Jo_writeTo
theorem GU_Pl_222_Re : GoodIn lwG (va_wsU "SerialPlant" 222 "SerialPlant$Request" "SerialPlant$Job" ⟨"SerialPlant$Job", "writeTo", "(LSerialPlant$Frame;)V"⟩ yJo_writeTo wsJo_writeTo) := gcA (m1 w_420 (m1 w_422 (m1 w_424 (m1 w_421 (m1 w_8 m0))))) G0_Jo_writeTo
theorem GV_Pl_226_Wa : GoodIn lwG (wsV "SerialPlant" 226 "SerialPlant$Way" yWa_spendFault wsWa_spendFault) := gcA (m1 w_465 (m1 w_466 (m1 w_467 (m1 w_4 m0)))) G0_Wa_spendFault
theorem GV_Pl_229_Pl : GoodIn lwG (wsV "SerialPlant" 229 "SerialPlant" yPl_deliver wsPl_deliver) := gcA (m1 w_469 (m1 w_471 (m1 wp_8 (m1 w_1 m0)))) G0_Pl_deliver
theorem GV_Pl_233_Sl : GoodIn lwG (wsV "SerialPlant" 233 "SerialPlant$Slave" ySl_writeAnswer wsSl_writeAnswer) := gcA (m1 w_526 (m1 w_527 (m1 w_528 (m1 w_2 m0)))) G0_Sl_writeAnswer
theorem GV_Li_51_Li : GoodIn lwG (wsV "SerialPlant$Line" 51 "SerialPlant$Line" yLi_release wsLi_release) := gcA (m1 w_552 (m1 w_358 (m1 w_359 (m1 w_3 m0)))) G0_Li_release
theorem GU_Li_54_Po : GoodIn lwG (va_wsU "SerialPlant$Line" 54 "SerialPlant$Poll" "SerialPlant$Job" ⟨"SerialPlant$Job", "goUnanswered", "()V"⟩ yPo_goUnanswered wsPo_goUnanswered) := gcA (m1 w_553 (m1 w_555 (m1 w_556 (m1 w_557 (m1 w_9 m0))))) G0_Po_goUnanswered
theorem GU_Li_54_Re : GoodIn lwG (va_wsU "SerialPlant$Line" 54 "SerialPlant$Request" "SerialPlant$Job" ⟨"SerialPlant$Job", "goUnanswered", "()V"⟩ yRe_goUnanswered wsRe_goUnanswered) := gcA (m1 w_553 (m1 w_555 (m1 w_559 (m1 w_560 (m1 w_10 m0))))) G0_Re_goUnanswered
theorem GV_Pl_185_Pl : GoodIn lwG (wsV "SerialPlant" 185 "SerialPlant" yPl_takeAnswer wsPl_takeAnswer) := gcA (m1 w_353 (m1 w_355 (m1 wp_6 (m1 w_1 m0)))) G0_Pl_takeAnswer
theorem GV_Pl_188_Li : GoodIn lwG (wsV "SerialPlant" 188 "SerialPlant$Line" yLi_isOverdue wsLi_isOverdue) := gcA (m1 w_403 (m1 w_404 (m1 w_405 (m1 w_3 m0)))) G0_Li_isOverdue
theorem GV_Pl_191_Li : GoodIn lwG (wsV "SerialPlant" 191 "SerialPlant$Line" yLi_maySendAgain wsLi_maySendAgain) := gcA (m1 w_408 (m1 w_409 (m1 w_410 (m1 w_3 m0)))) G0_Li_maySendAgain
theorem GV_Pl_197_Li : GoodIn lwG (wsV "SerialPlant" 197 "SerialPlant$Line" yLi_giveUp wsLi_giveUp) := gcA (m1 w_548 (m1 w_549 (m1 w_550 (m1 w_3 m0)))) G0_Li_giveUp
theorem GV_Pl_194_Pl : GoodIn lwG (wsV "SerialPlant" 194 "SerialPlant" yPl_send wsPl_send) := gcA (m1 w_412 (m1 w_414 (m1 wp_7 (m1 w_1 m0)))) G0_Pl_send
theorem GV_Pl_200_Li : GoodIn lwG (wsV "SerialPlant" 200 "SerialPlant$Line" yLi_startNext wsLi_startNext) := gcA (m1 w_562 (m1 w_563 (m1 w_564 (m1 w_3 m0)))) G0_Li_startNext
theorem GV_Pl_110_Pl : GoodIn lwG (wsV "SerialPlant" 110 "SerialPlant" yPl_queuePolls wsPl_queuePolls) := gcA (m1 w_337 (m1 w_339 (m1 wp_3 (m1 w_1 m0)))) G0_Pl_queuePolls
theorem GV_Pl_113_Pl : GoodIn lwG (wsV "SerialPlant" 113 "SerialPlant" yPl_serve wsPl_serve) := gcA (m1 w_349 (m1 w_351 (m1 wp_5 (m1 w_1 m0)))) G0_Pl_serve
theorem GV_Pl_153_Fr : GoodIn lwG (wsV "SerialPlant" 153 "SerialPlant$Frame" yFr_byteAt wsFr_byteAt) := gcA (m1 w_579 (m1 w_368 (m1 w_369 (m1 w_5 m0)))) G0_Fr_byteAt
theorem GV_Pl_157_Hi : GoodIn lwG (wsV "SerialPlant" 157 "SerialPlant$History" yHi_part wsHi_part) := gcA (m1 w_584 (m1 w_585 (m1 w_586 (m1 w_6 m0)))) G0_Hi_part
theorem GV_Pl_161_Hi : GoodIn lwG (wsV "SerialPlant" 161 "SerialPlant$History" yHi_countOf wsHi_countOf) := gcA (m1 w_592 (m1 w_593 (m1 w_594 (m1 w_6 m0)))) G0_Hi_countOf
theorem GS_Mo_117 : GoodIn lwG (wsS "SerialPlantModel" 117 yMo_within wsMo_within) := gcA (m1 w_732 (m1 w_733 (m1 w_7 m0))) G0_Mo_within
theorem GS_Mo_121 : GoodIn lwG (wsS "SerialPlantModel" 121 yMo_place wsMo_place) := gcA (m1 w_743 (m1 w_744 (m1 w_7 m0))) G0_Mo_place
theorem GV_Mo_132_Mo : GoodIn lwG (wsV "SerialPlantModel" 132 "SerialPlantModel" yMo_put wsMo_put) := gcA (m1 w_759 (m1 w_761 (m1 wp_9 (m1 w_7 m0)))) G0_Mo_put
theorem GV_Mo_136_Mo : GoodIn lwG (wsV "SerialPlantModel" 136 "SerialPlantModel" yMo_add wsMo_add) := gcA (m1 w_807 (m1 w_809 (m1 wp_19 (m1 w_7 m0)))) G0_Mo_add
theorem GS_Mo_142 : GoodIn lwG (wsS "SerialPlantModel" 142 yMo_word wsMo_word) := gcA (m1 w_815 (m1 w_816 (m1 w_7 m0))) G0_Mo_word
theorem GV_Mo_146_Mo : GoodIn lwG (wsV "SerialPlantModel" 146 "SerialPlantModel" yMo_addWord wsMo_addWord) := gcA (m1 w_811 (m1 w_813 (m1 wp_20 (m1 w_7 m0)))) G0_Mo_addWord
theorem GV_Mo_149_Mo : GoodIn lwG (wsV "SerialPlantModel" 149 "SerialPlantModel" yMo_begin wsMo_begin) := gcA (m1 w_803 (m1 w_805 (m1 wp_18 (m1 w_7 m0)))) G0_Mo_begin
theorem GV_Mo_157_Mo : GoodIn lwG (wsV "SerialPlantModel" 157 "SerialPlantModel" yMo_addWords wsMo_addWords) := gcA (m1 w_823 (m1 w_825 (m1 wp_22 (m1 w_7 m0)))) G0_Mo_addWords
theorem GV_Mo_153_Mo : GoodIn lwG (wsV "SerialPlantModel" 153 "SerialPlantModel" yMo_addBits wsMo_addBits) := gcA (m1 w_819 (m1 w_821 (m1 wp_21 (m1 w_7 m0)))) G0_Mo_addBits
theorem GV_Mo_160_Mo : GoodIn lwG (wsV "SerialPlantModel" 160 "SerialPlantModel" yMo_addSum wsMo_addSum) := gcA (m1 w_827 (m1 w_829 (m1 wp_23 (m1 w_7 m0)))) G0_Mo_addSum
theorem GV_Mo_171_Mo : GoodIn lwG (wsV "SerialPlantModel" 171 "SerialPlantModel" yMo_writeRequest wsMo_writeRequest) := gcA (m1 w_799 (m1 w_801 (m1 wp_17 (m1 w_7 m0)))) G0_Mo_writeRequest
theorem GV_Mo_180_Mo : GoodIn lwG (wsV "SerialPlantModel" 180 "SerialPlantModel" yMo_read wsMo_read) := gcA (m1 w_848 (m1 w_850 (m1 wp_27 (m1 w_7 m0)))) G0_Mo_read
theorem GV_Mo_176_Mo : GoodIn lwG (wsV "SerialPlantModel" 176 "SerialPlantModel" yMo_write wsMo_write) := gcA (m1 w_844 (m1 w_846 (m1 wp_26 (m1 w_7 m0)))) G0_Mo_write
theorem GS_Mo_184 : GoodIn lwG (wsS "SerialPlantModel" 184 yMo_wrong wsMo_wrong) := gcA (m1 w_836 (m1 w_837 (m1 w_7 m0))) G0_Mo_wrong
theorem GV_Mo_188_Mo : GoodIn lwG (wsV "SerialPlantModel" 188 "SerialPlantModel" yMo_act wsMo_act) := gcA (m1 w_840 (m1 w_842 (m1 wp_25 (m1 w_7 m0)))) G0_Mo_act
theorem GV_Mo_207_Mo : GoodIn lwG (wsV "SerialPlantModel" 207 "SerialPlantModel" yMo_take wsMo_take) := gcA (m1 w_783 (m1 w_785 (m1 wp_13 (m1 w_7 m0)))) G0_Mo_take
theorem GV_Mo_197_Mo : GoodIn lwG (wsV "SerialPlantModel" 197 "SerialPlantModel" yMo_gets wsMo_gets) := gcA (m1 w_832 (m1 w_834 (m1 wp_24 (m1 w_7 m0)))) G0_Mo_gets
theorem GV_Mo_201_Mo : GoodIn lwG (wsV "SerialPlantModel" 201 "SerialPlantModel" yMo_writeAnswer wsMo_writeAnswer) := gcA (m1 w_852 (m1 w_854 (m1 wp_28 (m1 w_7 m0)))) G0_Mo_writeAnswer
theorem GV_Mo_204_Mo : GoodIn lwG (wsV "SerialPlantModel" 204 "SerialPlantModel" yMo_comes wsMo_comes) := gcA (m1 w_779 (m1 w_781 (m1 wp_12 (m1 w_7 m0)))) G0_Mo_comes
theorem GV_Mo_194_Mo : GoodIn lwG (wsV "SerialPlantModel" 194 "SerialPlantModel" yMo_carry wsMo_carry) := gcA (m1 w_795 (m1 w_797 (m1 wp_16 (m1 w_7 m0)))) G0_Mo_carry
theorem GV_Mo_213_Mo : GoodIn lwG (wsV "SerialPlantModel" 213 "SerialPlantModel" yMo_isBroadcast wsMo_isBroadcast) := gcA (m1 w_787 (m1 w_789 (m1 wp_14 (m1 w_7 m0)))) G0_Mo_isBroadcast
theorem GV_Mo_217_Mo : GoodIn lwG (wsV "SerialPlantModel" 217 "SerialPlantModel" yMo_send wsMo_send) := gcA (m1 w_791 (m1 w_793 (m1 wp_15 (m1 w_7 m0)))) G0_Mo_send
theorem GV_Mo_220_Mo : GoodIn lwG (wsV "SerialPlantModel" 220 "SerialPlantModel" yMo_polls wsMo_polls) := gcA (m1 w_771 (m1 w_773 (m1 wp_10 (m1 w_7 m0)))) G0_Mo_polls
theorem GV_Mo_224_Mo : GoodIn lwG (wsV "SerialPlantModel" 224 "SerialPlantModel" yMo_goOn wsMo_goOn) := gcA (m1 w_775 (m1 w_777 (m1 wp_11 (m1 w_7 m0)))) G0_Mo_goOn
theorem GV_Mo_227_Mo : GoodIn lwG (wsV "SerialPlantModel" 227 "SerialPlantModel" yMo_begins wsMo_begins) := gcA (m1 w_856 (m1 w_858 (m1 wp_29 (m1 w_7 m0)))) G0_Mo_begins
theorem GV_Lw_13_Pl : GoodIn lwG (wsV "SerialPlantLaw" 13 "SerialPlant" yPl_attach wsPl_attach) := gcA (m1 w_183 (m1 w_184 (m1 w_185 (m1 w_1 m0)))) G0_Pl_attach
theorem GV_Lw_17_Mo : GoodIn lwG (wsV "SerialPlantLaw" 17 "SerialPlantModel" yMo_attach wsMo_attach) := gcA (m1 w_728 (m1 w_729 (m1 w_730 (m1 w_7 m0)))) G0_Mo_attach
theorem GV_Lw_18_Pl : GoodIn lwG (wsV "SerialPlantLaw" 18 "SerialPlant" yPl_power wsPl_power) := gcA (m1 w_200 (m1 w_201 (m1 w_202 (m1 w_1 m0)))) G0_Pl_power
theorem GV_Lw_22_Mo : GoodIn lwG (wsV "SerialPlantLaw" 22 "SerialPlantModel" yMo_power wsMo_power) := gcA (m1 w_735 (m1 w_736 (m1 w_737 (m1 w_7 m0)))) G0_Mo_power
theorem GV_Lw_23_Pl : GoodIn lwG (wsV "SerialPlantLaw" 23 "SerialPlant" yPl_process wsPl_process) := gcA (m1 w_204 (m1 w_205 (m1 w_206 (m1 w_1 m0)))) G0_Pl_process
theorem GV_Lw_27_Mo : GoodIn lwG (wsV "SerialPlantLaw" 27 "SerialPlantModel" yMo_process wsMo_process) := gcA (m1 w_739 (m1 w_740 (m1 w_741 (m1 w_7 m0)))) G0_Mo_process
theorem GV_Lw_28_Pl : GoodIn lwG (wsV "SerialPlantLaw" 28 "SerialPlant" yPl_cell wsPl_cell) := gcA (m1 w_216 (m1 w_217 (m1 w_218 (m1 w_1 m0)))) G0_Pl_cell
theorem GV_Lw_32_Mo : GoodIn lwG (wsV "SerialPlantLaw" 32 "SerialPlantModel" yMo_cell wsMo_cell) := gcA (m1 w_747 (m1 w_748 (m1 w_749 (m1 w_7 m0)))) G0_Mo_cell
theorem GV_Lw_33_Pl : GoodIn lwG (wsV "SerialPlantLaw" 33 "SerialPlant" yPl_point wsPl_point) := gcA (m1 w_220 (m1 w_221 (m1 w_222 (m1 w_1 m0)))) G0_Pl_point
theorem GV_Lw_36_Mo : GoodIn lwG (wsV "SerialPlantLaw" 36 "SerialPlantModel" yMo_point wsMo_point) := gcA (m1 w_751 (m1 w_752 (m1 w_753 (m1 w_7 m0)))) G0_Mo_point
theorem GV_Lw_39_Pl : GoodIn lwG (wsV "SerialPlantLaw" 39 "SerialPlant" yPl_request wsPl_request) := gcA (m1 w_271 (m1 w_272 (m1 w_273 (m1 w_1 m0)))) G0_Pl_request
theorem GV_Lw_43_Mo : GoodIn lwG (wsV "SerialPlantLaw" 43 "SerialPlantModel" yMo_request wsMo_request) := gcA (m1 w_755 (m1 w_756 (m1 w_757 (m1 w_7 m0)))) G0_Mo_request
theorem GV_Lw_44_Pl : GoodIn lwG (wsV "SerialPlantLaw" 44 "SerialPlant" yPl_fault wsPl_fault) := gcA (m1 w_321 (m1 w_322 (m1 w_323 (m1 w_1 m0)))) G0_Pl_fault
theorem GV_Lw_48_Mo : GoodIn lwG (wsV "SerialPlantLaw" 48 "SerialPlantModel" yMo_fault wsMo_fault) := gcA (m1 w_763 (m1 w_764 (m1 w_765 (m1 w_7 m0)))) G0_Mo_fault
theorem GV_Lw_49_Pl : GoodIn lwG (wsV "SerialPlantLaw" 49 "SerialPlant" yPl_tick wsPl_tick) := gcA (m1 w_333 (m1 w_334 (m1 w_335 (m1 w_1 m0)))) G0_Pl_tick
theorem GV_Lw_53_Mo : GoodIn lwG (wsV "SerialPlantLaw" 53 "SerialPlantModel" yMo_tick wsMo_tick) := gcA (m1 w_767 (m1 w_768 (m1 w_769 (m1 w_7 m0)))) G0_Mo_tick
theorem GV_Lw_54_Pl : GoodIn lwG (wsV "SerialPlantLaw" 54 "SerialPlant" yPl_reply wsPl_reply) := gcA (m1 w_566 (m1 w_567 (m1 w_568 (m1 w_1 m0)))) G0_Pl_reply
theorem GV_Lw_58_Mo : GoodIn lwG (wsV "SerialPlantLaw" 58 "SerialPlantModel" yMo_reply wsMo_reply) := gcA (m1 w_860 (m1 w_861 (m1 w_862 (m1 w_7 m0)))) G0_Mo_reply
theorem GV_Lw_59_Pl : GoodIn lwG (wsV "SerialPlantLaw" 59 "SerialPlant" yPl_line wsPl_line) := gcA (m1 w_571 (m1 w_572 (m1 w_573 (m1 w_1 m0)))) G0_Pl_line
theorem GV_Lw_63_Mo : GoodIn lwG (wsV "SerialPlantLaw" 63 "SerialPlantModel" yMo_line wsMo_line) := gcA (m1 w_865 (m1 w_866 (m1 w_867 (m1 w_7 m0)))) G0_Mo_line
theorem GV_Lw_64_Pl : GoodIn lwG (wsV "SerialPlantLaw" 64 "SerialPlant" yPl_wire wsPl_wire) := gcA (m1 w_575 (m1 w_576 (m1 w_577 (m1 w_1 m0)))) G0_Pl_wire
theorem GV_Lw_68_Mo : GoodIn lwG (wsV "SerialPlantLaw" 68 "SerialPlantModel" yMo_wire wsMo_wire) := gcA (m1 w_869 (m1 w_870 (m1 w_871 (m1 w_7 m0)))) G0_Mo_wire
theorem GV_Lw_69_Pl : GoodIn lwG (wsV "SerialPlantLaw" 69 "SerialPlant" yPl_sample wsPl_sample) := gcA (m1 w_580 (m1 w_581 (m1 w_582 (m1 w_1 m0)))) G0_Pl_sample
theorem GV_Lw_72_Mo : GoodIn lwG (wsV "SerialPlantLaw" 72 "SerialPlantModel" yMo_sample wsMo_sample) := gcA (m1 w_873 (m1 w_874 (m1 w_875 (m1 w_7 m0)))) G0_Mo_sample
theorem GV_Lw_73_Pl : GoodIn lwG (wsV "SerialPlantLaw" 73 "SerialPlant" yPl_samples wsPl_samples) := gcA (m1 w_588 (m1 w_589 (m1 w_590 (m1 w_1 m0)))) G0_Pl_samples
theorem GV_Lw_76_Mo : GoodIn lwG (wsV "SerialPlantLaw" 76 "SerialPlantModel" yMo_samples wsMo_samples) := gcA (m1 w_877 (m1 w_878 (m1 w_879 (m1 w_7 m0)))) G0_Mo_samples
theorem hd_Fr_init_I : yFr_init.cls ≠ "java/lang/invoke/MethodHandle" ∧ yFr_init.cls ≠ "java/lang/invoke/VarHandle" ∧ (parseMethodDescriptor yFr_init.desc).map (fun d => d.parameters.length) = some 0 := by decide +kernel
theorem hd_Wa_init_I : yWa_init.cls ≠ "java/lang/invoke/MethodHandle" ∧ yWa_init.cls ≠ "java/lang/invoke/VarHandle" ∧ (parseMethodDescriptor yWa_init.desc).map (fun d => d.parameters.length) = some 0 := by decide +kernel
theorem hd_Sl_init_I : ySl_init.cls ≠ "java/lang/invoke/MethodHandle" ∧ ySl_init.cls ≠ "java/lang/invoke/VarHandle" ∧ (parseMethodDescriptor ySl_init.desc).map (fun d => d.parameters.length) = some 1 := by decide +kernel
theorem hd_Li_init_I : yLi_init.cls ≠ "java/lang/invoke/MethodHandle" ∧ yLi_init.cls ≠ "java/lang/invoke/VarHandle" ∧ (parseMethodDescriptor yLi_init.desc).map (fun d => d.parameters.length) = some 1 := by decide +kernel
theorem hd_Hi_init_I : yHi_init.cls ≠ "java/lang/invoke/MethodHandle" ∧ yHi_init.cls ≠ "java/lang/invoke/VarHandle" ∧ (parseMethodDescriptor yHi_init.desc).map (fun d => d.parameters.length) = some 0 := by decide +kernel
theorem hd_Pl_isSlave_S_Pl : yPl_isSlave.cls = "SerialPlant" ∧ yPl_isSlave.cls ≠ "java/lang/invoke/MethodHandle" ∧ yPl_isSlave.cls ≠ "java/lang/invoke/VarHandle" ∧ (parseMethodDescriptor yPl_isSlave.desc).map (fun d => d.parameters.length) = some 1 := by decide +kernel
theorem hd_Pl_isLine_S_Pl : yPl_isLine.cls = "SerialPlant" ∧ yPl_isLine.cls ≠ "java/lang/invoke/MethodHandle" ∧ yPl_isLine.cls ≠ "java/lang/invoke/VarHandle" ∧ (parseMethodDescriptor yPl_isLine.desc).map (fun d => d.parameters.length) = some 1 := by decide +kernel
theorem hd_Pl_isWithin_S_Pl : yPl_isWithin.cls = "SerialPlant" ∧ yPl_isWithin.cls ≠ "java/lang/invoke/MethodHandle" ∧ yPl_isWithin.cls ≠ "java/lang/invoke/VarHandle" ∧ (parseMethodDescriptor yPl_isWithin.desc).map (fun d => d.parameters.length) = some 2 := by decide +kernel
theorem hd_Sl_isAttached_V : ySl_isAttached.cls = "SerialPlant$Slave" ∧ ySl_isAttached.cls ≠ "java/lang/invoke/MethodHandle" ∧ ySl_isAttached.cls ≠ "java/lang/invoke/VarHandle" ∧ (parseMethodDescriptor ySl_isAttached.desc).map (fun d => d.parameters.length) = some 0 := by decide +kernel
theorem hd_Sl_tableOf_V : ySl_tableOf.cls = "SerialPlant$Slave" ∧ ySl_tableOf.cls ≠ "java/lang/invoke/MethodHandle" ∧ ySl_tableOf.cls ≠ "java/lang/invoke/VarHandle" ∧ (parseMethodDescriptor ySl_tableOf.desc).map (fun d => d.parameters.length) = some 1 := by decide +kernel
theorem hd_Pl_isPlace_S_Pl : yPl_isPlace.cls = "SerialPlant" ∧ yPl_isPlace.cls ≠ "java/lang/invoke/MethodHandle" ∧ yPl_isPlace.cls ≠ "java/lang/invoke/VarHandle" ∧ (parseMethodDescriptor yPl_isPlace.desc).map (fun d => d.parameters.length) = some 2 := by decide +kernel
theorem hd_Jo_init_I : yJo_init.cls ≠ "java/lang/invoke/MethodHandle" ∧ yJo_init.cls ≠ "java/lang/invoke/VarHandle" ∧ (parseMethodDescriptor yJo_init.desc).map (fun d => d.parameters.length) = some 6 := by decide +kernel
theorem hd_Pl_isAttachedSlave_V : yPl_isAttachedSlave.cls = "SerialPlant" ∧ yPl_isAttachedSlave.cls ≠ "java/lang/invoke/MethodHandle" ∧ yPl_isAttachedSlave.cls ≠ "java/lang/invoke/VarHandle" ∧ (parseMethodDescriptor yPl_isAttachedSlave.desc).map (fun d => d.parameters.length) = some 1 := by decide +kernel
theorem hd_Po_init_I : yPo_init.cls ≠ "java/lang/invoke/MethodHandle" ∧ yPo_init.cls ≠ "java/lang/invoke/VarHandle" ∧ (parseMethodDescriptor yPo_init.desc).map (fun d => d.parameters.length) = some 5 := by decide +kernel
theorem hd_Li_enqueue_V : yLi_enqueue.cls = "SerialPlant$Line" ∧ yLi_enqueue.cls ≠ "java/lang/invoke/MethodHandle" ∧ yLi_enqueue.cls ≠ "java/lang/invoke/VarHandle" ∧ (parseMethodDescriptor yLi_enqueue.desc).map (fun d => d.parameters.length) = some 1 := by decide +kernel
theorem hd_Jo_isBroadcast_U : "SerialPlant$Job" ≠ "java/lang/invoke/MethodHandle" ∧ "SerialPlant$Job" ≠ "java/lang/invoke/VarHandle" ∧ (parseMethodDescriptor "()Z").map (fun d => d.parameters.length) = some 0 := by decide +kernel
theorem hd_Pl_enqueue_V : yPl_enqueue.cls = "SerialPlant" ∧ yPl_enqueue.cls ≠ "java/lang/invoke/MethodHandle" ∧ yPl_enqueue.cls ≠ "java/lang/invoke/VarHandle" ∧ (parseMethodDescriptor yPl_enqueue.desc).map (fun d => d.parameters.length) = some 1 := by decide +kernel
theorem hd_Re_refuse_V : yRe_refuse.cls = "SerialPlant$Request" ∧ yRe_refuse.cls ≠ "java/lang/invoke/MethodHandle" ∧ yRe_refuse.cls ≠ "java/lang/invoke/VarHandle" ∧ (parseMethodDescriptor yRe_refuse.desc).map (fun d => d.parameters.length) = some 1 := by decide +kernel
theorem hd_Re_init_I : yRe_init.cls ≠ "java/lang/invoke/MethodHandle" ∧ yRe_init.cls ≠ "java/lang/invoke/VarHandle" ∧ (parseMethodDescriptor yRe_init.desc).map (fun d => d.parameters.length) = some 6 := by decide +kernel
theorem hd_Pl_accept_V : yPl_accept.cls = "SerialPlant" ∧ yPl_accept.cls ≠ "java/lang/invoke/MethodHandle" ∧ yPl_accept.cls ≠ "java/lang/invoke/VarHandle" ∧ (parseMethodDescriptor yPl_accept.desc).map (fun d => d.parameters.length) = some 1 := by decide +kernel
theorem hd_Li_wayOf_V : yLi_wayOf.cls = "SerialPlant$Line" ∧ yLi_wayOf.cls ≠ "java/lang/invoke/MethodHandle" ∧ yLi_wayOf.cls ≠ "java/lang/invoke/VarHandle" ∧ (parseMethodDescriptor yLi_wayOf.desc).map (fun d => d.parameters.length) = some 1 := by decide +kernel
theorem hd_Wa_plantFault_V : yWa_plantFault.cls = "SerialPlant$Way" ∧ yWa_plantFault.cls ≠ "java/lang/invoke/MethodHandle" ∧ yWa_plantFault.cls ≠ "java/lang/invoke/VarHandle" ∧ (parseMethodDescriptor yWa_plantFault.desc).map (fun d => d.parameters.length) = some 0 := by decide +kernel
theorem hd_Li_has_V : yLi_has.cls = "SerialPlant$Line" ∧ yLi_has.cls ≠ "java/lang/invoke/MethodHandle" ∧ yLi_has.cls ≠ "java/lang/invoke/VarHandle" ∧ (parseMethodDescriptor yLi_has.desc).map (fun d => d.parameters.length) = some 1 := by decide +kernel
theorem hd_Pl_isOnItsWay_V : yPl_isOnItsWay.cls = "SerialPlant" ∧ yPl_isOnItsWay.cls ≠ "java/lang/invoke/MethodHandle" ∧ yPl_isOnItsWay.cls ≠ "java/lang/invoke/VarHandle" ∧ (parseMethodDescriptor yPl_isOnItsWay.desc).map (fun d => d.parameters.length) = some 1 := by decide +kernel
theorem hd_Fr_byteAt_V : yFr_byteAt.cls = "SerialPlant$Frame" ∧ yFr_byteAt.cls ≠ "java/lang/invoke/MethodHandle" ∧ yFr_byteAt.cls ≠ "java/lang/invoke/VarHandle" ∧ (parseMethodDescriptor yFr_byteAt.desc).map (fun d => d.parameters.length) = some 1 := by decide +kernel
theorem hd_Fr_wordAt_V : yFr_wordAt.cls = "SerialPlant$Frame" ∧ yFr_wordAt.cls ≠ "java/lang/invoke/MethodHandle" ∧ yFr_wordAt.cls ≠ "java/lang/invoke/VarHandle" ∧ (parseMethodDescriptor yFr_wordAt.desc).map (fun d => d.parameters.length) = some 1 := by decide +kernel
theorem hd_Hi_keep_V : yHi_keep.cls = "SerialPlant$History" ∧ yHi_keep.cls ≠ "java/lang/invoke/MethodHandle" ∧ yHi_keep.cls ≠ "java/lang/invoke/VarHandle" ∧ (parseMethodDescriptor yHi_keep.desc).map (fun d => d.parameters.length) = some 3 := by decide +kernel
theorem hd_Jo_bitBytes_U : "SerialPlant$Job" ≠ "java/lang/invoke/MethodHandle" ∧ "SerialPlant$Job" ≠ "java/lang/invoke/VarHandle" ∧ (parseMethodDescriptor "()I").map (fun d => d.parameters.length) = some 0 := by decide +kernel
theorem hd_Re_readBits_V : yRe_readBits.cls = "SerialPlant$Request" ∧ yRe_readBits.cls ≠ "java/lang/invoke/MethodHandle" ∧ yRe_readBits.cls ≠ "java/lang/invoke/VarHandle" ∧ (parseMethodDescriptor yRe_readBits.desc).map (fun d => d.parameters.length) = some 1 := by decide +kernel
theorem hd_Re_readWords_V : yRe_readWords.cls = "SerialPlant$Request" ∧ yRe_readWords.cls ≠ "java/lang/invoke/MethodHandle" ∧ yRe_readWords.cls ≠ "java/lang/invoke/VarHandle" ∧ (parseMethodDescriptor yRe_readWords.desc).map (fun d => d.parameters.length) = some 1 := by decide +kernel
theorem hd_Re_read_V : yRe_read.cls = "SerialPlant$Request" ∧ yRe_read.cls ≠ "java/lang/invoke/MethodHandle" ∧ yRe_read.cls ≠ "java/lang/invoke/VarHandle" ∧ (parseMethodDescriptor yRe_read.desc).map (fun d => d.parameters.length) = some 1 := by decide +kernel
theorem hd_Li_release_V : yLi_release.cls = "SerialPlant$Line" ∧ yLi_release.cls ≠ "java/lang/invoke/MethodHandle" ∧ yLi_release.cls ≠ "java/lang/invoke/VarHandle" ∧ (parseMethodDescriptor yLi_release.desc).map (fun d => d.parameters.length) = some 0 := by decide +kernel
theorem hd_Po_take_A : "SerialPlant$Job" ≠ "java/lang/invoke/MethodHandle" ∧ "SerialPlant$Job" ≠ "java/lang/invoke/VarHandle" ∧ (parseMethodDescriptor "(LSerialPlant$Frame;I)V").map (fun d => d.parameters.length) = some 2 := by decide +kernel
theorem hd_Re_take_A : "SerialPlant$Job" ≠ "java/lang/invoke/MethodHandle" ∧ "SerialPlant$Job" ≠ "java/lang/invoke/VarHandle" ∧ (parseMethodDescriptor "(LSerialPlant$Frame;I)V").map (fun d => d.parameters.length) = some 2 := by decide +kernel
theorem hd_Fr_addByte_V : yFr_addByte.cls = "SerialPlant$Frame" ∧ yFr_addByte.cls ≠ "java/lang/invoke/MethodHandle" ∧ yFr_addByte.cls ≠ "java/lang/invoke/VarHandle" ∧ (parseMethodDescriptor yFr_addByte.desc).map (fun d => d.parameters.length) = some 1 := by decide +kernel
theorem hd_Jo_word_U : "SerialPlant$Job" ≠ "java/lang/invoke/MethodHandle" ∧ "SerialPlant$Job" ≠ "java/lang/invoke/VarHandle" ∧ (parseMethodDescriptor "(I)I").map (fun d => d.parameters.length) = some 1 := by decide +kernel
theorem hd_Fr_addWord_V : yFr_addWord.cls = "SerialPlant$Frame" ∧ yFr_addWord.cls ≠ "java/lang/invoke/MethodHandle" ∧ yFr_addWord.cls ≠ "java/lang/invoke/VarHandle" ∧ (parseMethodDescriptor yFr_addWord.desc).map (fun d => d.parameters.length) = some 1 := by decide +kernel
theorem hd_Fr_begin_V : yFr_begin.cls = "SerialPlant$Frame" ∧ yFr_begin.cls ≠ "java/lang/invoke/MethodHandle" ∧ yFr_begin.cls ≠ "java/lang/invoke/VarHandle" ∧ (parseMethodDescriptor yFr_begin.desc).map (fun d => d.parameters.length) = some 2 := by decide +kernel
theorem hd_Jo_addBits_U : "SerialPlant$Job" ≠ "java/lang/invoke/MethodHandle" ∧ "SerialPlant$Job" ≠ "java/lang/invoke/VarHandle" ∧ (parseMethodDescriptor "(LSerialPlant$Frame;)V").map (fun d => d.parameters.length) = some 1 := by decide +kernel
theorem hd_Jo_addWords_U : "SerialPlant$Job" ≠ "java/lang/invoke/MethodHandle" ∧ "SerialPlant$Job" ≠ "java/lang/invoke/VarHandle" ∧ (parseMethodDescriptor "(LSerialPlant$Frame;)V").map (fun d => d.parameters.length) = some 1 := by decide +kernel
theorem hd_Fr_addSum_V : yFr_addSum.cls = "SerialPlant$Frame" ∧ yFr_addSum.cls ≠ "java/lang/invoke/MethodHandle" ∧ yFr_addSum.cls ≠ "java/lang/invoke/VarHandle" ∧ (parseMethodDescriptor yFr_addSum.desc).map (fun d => d.parameters.length) = some 0 := by decide +kernel
theorem hd_Jo_spanRefusal_U : "SerialPlant$Job" ≠ "java/lang/invoke/MethodHandle" ∧ "SerialPlant$Job" ≠ "java/lang/invoke/VarHandle" ∧ (parseMethodDescriptor "(II)I").map (fun d => d.parameters.length) = some 2 := by decide +kernel
theorem hd_Jo_isKnownKind_U : "SerialPlant$Job" ≠ "java/lang/invoke/MethodHandle" ∧ "SerialPlant$Job" ≠ "java/lang/invoke/VarHandle" ∧ (parseMethodDescriptor "()Z").map (fun d => d.parameters.length) = some 0 := by decide +kernel
theorem hd_Sl_put_S_Sl : ySl_put.cls = "SerialPlant$Slave" ∧ ySl_put.cls ≠ "java/lang/invoke/MethodHandle" ∧ ySl_put.cls ≠ "java/lang/invoke/VarHandle" ∧ (parseMethodDescriptor ySl_put.desc).map (fun d => d.parameters.length) = some 3 := by decide +kernel
theorem hd_Sl_changeMode_V : ySl_changeMode.cls = "SerialPlant$Slave" ∧ ySl_changeMode.cls ≠ "java/lang/invoke/MethodHandle" ∧ ySl_changeMode.cls ≠ "java/lang/invoke/VarHandle" ∧ (parseMethodDescriptor ySl_changeMode.desc).map (fun d => d.parameters.length) = some 1 := by decide +kernel
theorem hd_Jo_bit_U : "SerialPlant$Job" ≠ "java/lang/invoke/MethodHandle" ∧ "SerialPlant$Job" ≠ "java/lang/invoke/VarHandle" ∧ (parseMethodDescriptor "(I)I").map (fun d => d.parameters.length) = some 1 := by decide +kernel
theorem hd_Sl_get_S_Sl : ySl_get.cls = "SerialPlant$Slave" ∧ ySl_get.cls ≠ "java/lang/invoke/MethodHandle" ∧ ySl_get.cls ≠ "java/lang/invoke/VarHandle" ∧ (parseMethodDescriptor ySl_get.desc).map (fun d => d.parameters.length) = some 2 := by decide +kernel
theorem hd_Sl_masked_S_Sl : ySl_masked.cls = "SerialPlant$Slave" ∧ ySl_masked.cls ≠ "java/lang/invoke/MethodHandle" ∧ ySl_masked.cls ≠ "java/lang/invoke/VarHandle" ∧ (parseMethodDescriptor ySl_masked.desc).map (fun d => d.parameters.length) = some 3 := by decide +kernel
theorem hd_Jo_refusal_U : "SerialPlant$Job" ≠ "java/lang/invoke/MethodHandle" ∧ "SerialPlant$Job" ≠ "java/lang/invoke/VarHandle" ∧ (parseMethodDescriptor "()I").map (fun d => d.parameters.length) = some 0 := by decide +kernel
theorem hd_Sl_carryOut_V : ySl_carryOut.cls = "SerialPlant$Slave" ∧ ySl_carryOut.cls ≠ "java/lang/invoke/MethodHandle" ∧ ySl_carryOut.cls ≠ "java/lang/invoke/VarHandle" ∧ (parseMethodDescriptor ySl_carryOut.desc).map (fun d => d.parameters.length) = some 1 := by decide +kernel
theorem hd_Sl_isMeantBy_V : ySl_isMeantBy.cls = "SerialPlant$Slave" ∧ ySl_isMeantBy.cls ≠ "java/lang/invoke/MethodHandle" ∧ ySl_isMeantBy.cls ≠ "java/lang/invoke/VarHandle" ∧ (parseMethodDescriptor ySl_isMeantBy.desc).map (fun d => d.parameters.length) = some 1 := by decide +kernel
theorem hd_Sl_obey_V : ySl_obey.cls = "SerialPlant$Slave" ∧ ySl_obey.cls ≠ "java/lang/invoke/MethodHandle" ∧ ySl_obey.cls ≠ "java/lang/invoke/VarHandle" ∧ (parseMethodDescriptor ySl_obey.desc).map (fun d => d.parameters.length) = some 1 := by decide +kernel
theorem hd_Sl_writeBits_V : ySl_writeBits.cls = "SerialPlant$Slave" ∧ ySl_writeBits.cls ≠ "java/lang/invoke/MethodHandle" ∧ ySl_writeBits.cls ≠ "java/lang/invoke/VarHandle" ∧ (parseMethodDescriptor ySl_writeBits.desc).map (fun d => d.parameters.length) = some 2 := by decide +kernel
theorem hd_Sl_writeWords_V : ySl_writeWords.cls = "SerialPlant$Slave" ∧ ySl_writeWords.cls ≠ "java/lang/invoke/MethodHandle" ∧ ySl_writeWords.cls ≠ "java/lang/invoke/VarHandle" ∧ (parseMethodDescriptor ySl_writeWords.desc).map (fun d => d.parameters.length) = some 2 := by decide +kernel
theorem hd_Fr_copyFrom_V : yFr_copyFrom.cls = "SerialPlant$Frame" ∧ yFr_copyFrom.cls ≠ "java/lang/invoke/MethodHandle" ∧ yFr_copyFrom.cls ≠ "java/lang/invoke/VarHandle" ∧ (parseMethodDescriptor yFr_copyFrom.desc).map (fun d => d.parameters.length) = some 1 := by decide +kernel
theorem hd_Li_markSending_V : yLi_markSending.cls = "SerialPlant$Line" ∧ yLi_markSending.cls ≠ "java/lang/invoke/MethodHandle" ∧ yLi_markSending.cls ≠ "java/lang/invoke/VarHandle" ∧ (parseMethodDescriptor yLi_markSending.desc).map (fun d => d.parameters.length) = some 1 := by decide +kernel
theorem hd_Jo_writeTo_U : "SerialPlant$Job" ≠ "java/lang/invoke/MethodHandle" ∧ "SerialPlant$Job" ≠ "java/lang/invoke/VarHandle" ∧ (parseMethodDescriptor "(LSerialPlant$Frame;)V").map (fun d => d.parameters.length) = some 1 := by decide +kernel
theorem hd_Wa_spendFault_V : yWa_spendFault.cls = "SerialPlant$Way" ∧ yWa_spendFault.cls ≠ "java/lang/invoke/MethodHandle" ∧ yWa_spendFault.cls ≠ "java/lang/invoke/VarHandle" ∧ (parseMethodDescriptor yWa_spendFault.desc).map (fun d => d.parameters.length) = some 0 := by decide +kernel
theorem hd_Pl_deliver_V : yPl_deliver.cls = "SerialPlant" ∧ yPl_deliver.cls ≠ "java/lang/invoke/MethodHandle" ∧ yPl_deliver.cls ≠ "java/lang/invoke/VarHandle" ∧ (parseMethodDescriptor yPl_deliver.desc).map (fun d => d.parameters.length) = some 2 := by decide +kernel
theorem hd_Sl_writeAnswer_V : ySl_writeAnswer.cls = "SerialPlant$Slave" ∧ ySl_writeAnswer.cls ≠ "java/lang/invoke/MethodHandle" ∧ ySl_writeAnswer.cls ≠ "java/lang/invoke/VarHandle" ∧ (parseMethodDescriptor ySl_writeAnswer.desc).map (fun d => d.parameters.length) = some 3 := by decide +kernel
theorem hd_Po_goUnanswered_A : "SerialPlant$Job" ≠ "java/lang/invoke/MethodHandle" ∧ "SerialPlant$Job" ≠ "java/lang/invoke/VarHandle" ∧ (parseMethodDescriptor "()V").map (fun d => d.parameters.length) = some 0 := by decide +kernel
theorem hd_Re_goUnanswered_A : "SerialPlant$Job" ≠ "java/lang/invoke/MethodHandle" ∧ "SerialPlant$Job" ≠ "java/lang/invoke/VarHandle" ∧ (parseMethodDescriptor "()V").map (fun d => d.parameters.length) = some 0 := by decide +kernel
theorem hd_Pl_takeAnswer_V : yPl_takeAnswer.cls = "SerialPlant" ∧ yPl_takeAnswer.cls ≠ "java/lang/invoke/MethodHandle" ∧ yPl_takeAnswer.cls ≠ "java/lang/invoke/VarHandle" ∧ (parseMethodDescriptor yPl_takeAnswer.desc).map (fun d => d.parameters.length) = some 1 := by decide +kernel
theorem hd_Li_isOverdue_V : yLi_isOverdue.cls = "SerialPlant$Line" ∧ yLi_isOverdue.cls ≠ "java/lang/invoke/MethodHandle" ∧ yLi_isOverdue.cls ≠ "java/lang/invoke/VarHandle" ∧ (parseMethodDescriptor yLi_isOverdue.desc).map (fun d => d.parameters.length) = some 1 := by decide +kernel
theorem hd_Li_maySendAgain_V : yLi_maySendAgain.cls = "SerialPlant$Line" ∧ yLi_maySendAgain.cls ≠ "java/lang/invoke/MethodHandle" ∧ yLi_maySendAgain.cls ≠ "java/lang/invoke/VarHandle" ∧ (parseMethodDescriptor yLi_maySendAgain.desc).map (fun d => d.parameters.length) = some 0 := by decide +kernel
theorem hd_Li_giveUp_V : yLi_giveUp.cls = "SerialPlant$Line" ∧ yLi_giveUp.cls ≠ "java/lang/invoke/MethodHandle" ∧ yLi_giveUp.cls ≠ "java/lang/invoke/VarHandle" ∧ (parseMethodDescriptor yLi_giveUp.desc).map (fun d => d.parameters.length) = some 0 := by decide +kernel
theorem hd_Pl_send_V : yPl_send.cls = "SerialPlant" ∧ yPl_send.cls ≠ "java/lang/invoke/MethodHandle" ∧ yPl_send.cls ≠ "java/lang/invoke/VarHandle" ∧ (parseMethodDescriptor yPl_send.desc).map (fun d => d.parameters.length) = some 1 := by decide +kernel
theorem hd_Li_startNext_V : yLi_startNext.cls = "SerialPlant$Line" ∧ yLi_startNext.cls ≠ "java/lang/invoke/MethodHandle" ∧ yLi_startNext.cls ≠ "java/lang/invoke/VarHandle" ∧ (parseMethodDescriptor yLi_startNext.desc).map (fun d => d.parameters.length) = some 0 := by decide +kernel
theorem hd_Pl_queuePolls_V : yPl_queuePolls.cls = "SerialPlant" ∧ yPl_queuePolls.cls ≠ "java/lang/invoke/MethodHandle" ∧ yPl_queuePolls.cls ≠ "java/lang/invoke/VarHandle" ∧ (parseMethodDescriptor yPl_queuePolls.desc).map (fun d => d.parameters.length) = some 0 := by decide +kernel
theorem hd_Pl_serve_V : yPl_serve.cls = "SerialPlant" ∧ yPl_serve.cls ≠ "java/lang/invoke/MethodHandle" ∧ yPl_serve.cls ≠ "java/lang/invoke/VarHandle" ∧ (parseMethodDescriptor yPl_serve.desc).map (fun d => d.parameters.length) = some 1 := by decide +kernel
theorem hd_Hi_part_V : yHi_part.cls = "SerialPlant$History" ∧ yHi_part.cls ≠ "java/lang/invoke/MethodHandle" ∧ yHi_part.cls ≠ "java/lang/invoke/VarHandle" ∧ (parseMethodDescriptor yHi_part.desc).map (fun d => d.parameters.length) = some 2 := by decide +kernel
theorem hd_Hi_countOf_V : yHi_countOf.cls = "SerialPlant$History" ∧ yHi_countOf.cls ≠ "java/lang/invoke/MethodHandle" ∧ yHi_countOf.cls ≠ "java/lang/invoke/VarHandle" ∧ (parseMethodDescriptor yHi_countOf.desc).map (fun d => d.parameters.length) = some 3 := by decide +kernel
theorem hd_Mo_within_S_Mo : yMo_within.cls = "SerialPlantModel" ∧ yMo_within.cls ≠ "java/lang/invoke/MethodHandle" ∧ yMo_within.cls ≠ "java/lang/invoke/VarHandle" ∧ (parseMethodDescriptor yMo_within.desc).map (fun d => d.parameters.length) = some 3 := by decide +kernel
theorem hd_Mo_place_S_Mo : yMo_place.cls = "SerialPlantModel" ∧ yMo_place.cls ≠ "java/lang/invoke/MethodHandle" ∧ yMo_place.cls ≠ "java/lang/invoke/VarHandle" ∧ (parseMethodDescriptor yMo_place.desc).map (fun d => d.parameters.length) = some 3 := by decide +kernel
theorem hd_Mo_put_V : yMo_put.cls = "SerialPlantModel" ∧ yMo_put.cls ≠ "java/lang/invoke/MethodHandle" ∧ yMo_put.cls ≠ "java/lang/invoke/VarHandle" ∧ (parseMethodDescriptor yMo_put.desc).map (fun d => d.parameters.length) = some 2 := by decide +kernel
theorem hd_Mo_add_V : yMo_add.cls = "SerialPlantModel" ∧ yMo_add.cls ≠ "java/lang/invoke/MethodHandle" ∧ yMo_add.cls ≠ "java/lang/invoke/VarHandle" ∧ (parseMethodDescriptor yMo_add.desc).map (fun d => d.parameters.length) = some 2 := by decide +kernel
theorem hd_Mo_word_S_Mo : yMo_word.cls = "SerialPlantModel" ∧ yMo_word.cls ≠ "java/lang/invoke/MethodHandle" ∧ yMo_word.cls ≠ "java/lang/invoke/VarHandle" ∧ (parseMethodDescriptor yMo_word.desc).map (fun d => d.parameters.length) = some 2 := by decide +kernel
theorem hd_Mo_addWord_V : yMo_addWord.cls = "SerialPlantModel" ∧ yMo_addWord.cls ≠ "java/lang/invoke/MethodHandle" ∧ yMo_addWord.cls ≠ "java/lang/invoke/VarHandle" ∧ (parseMethodDescriptor yMo_addWord.desc).map (fun d => d.parameters.length) = some 2 := by decide +kernel
theorem hd_Mo_begin_V : yMo_begin.cls = "SerialPlantModel" ∧ yMo_begin.cls ≠ "java/lang/invoke/MethodHandle" ∧ yMo_begin.cls ≠ "java/lang/invoke/VarHandle" ∧ (parseMethodDescriptor yMo_begin.desc).map (fun d => d.parameters.length) = some 3 := by decide +kernel
theorem hd_Mo_addWords_V : yMo_addWords.cls = "SerialPlantModel" ∧ yMo_addWords.cls ≠ "java/lang/invoke/MethodHandle" ∧ yMo_addWords.cls ≠ "java/lang/invoke/VarHandle" ∧ (parseMethodDescriptor yMo_addWords.desc).map (fun d => d.parameters.length) = some 3 := by decide +kernel
theorem hd_Mo_addBits_V : yMo_addBits.cls = "SerialPlantModel" ∧ yMo_addBits.cls ≠ "java/lang/invoke/MethodHandle" ∧ yMo_addBits.cls ≠ "java/lang/invoke/VarHandle" ∧ (parseMethodDescriptor yMo_addBits.desc).map (fun d => d.parameters.length) = some 3 := by decide +kernel
theorem hd_Mo_addSum_V : yMo_addSum.cls = "SerialPlantModel" ∧ yMo_addSum.cls ≠ "java/lang/invoke/MethodHandle" ∧ yMo_addSum.cls ≠ "java/lang/invoke/VarHandle" ∧ (parseMethodDescriptor yMo_addSum.desc).map (fun d => d.parameters.length) = some 1 := by decide +kernel
theorem hd_Mo_writeRequest_V : yMo_writeRequest.cls = "SerialPlantModel" ∧ yMo_writeRequest.cls ≠ "java/lang/invoke/MethodHandle" ∧ yMo_writeRequest.cls ≠ "java/lang/invoke/VarHandle" ∧ (parseMethodDescriptor yMo_writeRequest.desc).map (fun d => d.parameters.length) = some 6 := by decide +kernel
theorem hd_Mo_read_V : yMo_read.cls = "SerialPlantModel" ∧ yMo_read.cls ≠ "java/lang/invoke/MethodHandle" ∧ yMo_read.cls ≠ "java/lang/invoke/VarHandle" ∧ (parseMethodDescriptor yMo_read.desc).map (fun d => d.parameters.length) = some 4 := by decide +kernel
theorem hd_Mo_write_V : yMo_write.cls = "SerialPlantModel" ∧ yMo_write.cls ≠ "java/lang/invoke/MethodHandle" ∧ yMo_write.cls ≠ "java/lang/invoke/VarHandle" ∧ (parseMethodDescriptor yMo_write.desc).map (fun d => d.parameters.length) = some 5 := by decide +kernel
theorem hd_Mo_wrong_S_Mo : yMo_wrong.cls = "SerialPlantModel" ∧ yMo_wrong.cls ≠ "java/lang/invoke/MethodHandle" ∧ yMo_wrong.cls ≠ "java/lang/invoke/VarHandle" ∧ (parseMethodDescriptor yMo_wrong.desc).map (fun d => d.parameters.length) = some 4 := by decide +kernel
theorem hd_Mo_act_V : yMo_act.cls = "SerialPlantModel" ∧ yMo_act.cls ≠ "java/lang/invoke/MethodHandle" ∧ yMo_act.cls ≠ "java/lang/invoke/VarHandle" ∧ (parseMethodDescriptor yMo_act.desc).map (fun d => d.parameters.length) = some 5 := by decide +kernel
theorem hd_Mo_take_V : yMo_take.cls = "SerialPlantModel" ∧ yMo_take.cls ≠ "java/lang/invoke/MethodHandle" ∧ yMo_take.cls ≠ "java/lang/invoke/VarHandle" ∧ (parseMethodDescriptor yMo_take.desc).map (fun d => d.parameters.length) = some 2 := by decide +kernel
theorem hd_Mo_gets_V : yMo_gets.cls = "SerialPlantModel" ∧ yMo_gets.cls ≠ "java/lang/invoke/MethodHandle" ∧ yMo_gets.cls ≠ "java/lang/invoke/VarHandle" ∧ (parseMethodDescriptor yMo_gets.desc).map (fun d => d.parameters.length) = some 6 := by decide +kernel
theorem hd_Mo_writeAnswer_V : yMo_writeAnswer.cls = "SerialPlantModel" ∧ yMo_writeAnswer.cls ≠ "java/lang/invoke/MethodHandle" ∧ yMo_writeAnswer.cls ≠ "java/lang/invoke/VarHandle" ∧ (parseMethodDescriptor yMo_writeAnswer.desc).map (fun d => d.parameters.length) = some 6 := by decide +kernel
theorem hd_Mo_comes_V : yMo_comes.cls = "SerialPlantModel" ∧ yMo_comes.cls ≠ "java/lang/invoke/MethodHandle" ∧ yMo_comes.cls ≠ "java/lang/invoke/VarHandle" ∧ (parseMethodDescriptor yMo_comes.desc).map (fun d => d.parameters.length) = some 1 := by decide +kernel
theorem hd_Mo_carry_V : yMo_carry.cls = "SerialPlantModel" ∧ yMo_carry.cls ≠ "java/lang/invoke/MethodHandle" ∧ yMo_carry.cls ≠ "java/lang/invoke/VarHandle" ∧ (parseMethodDescriptor yMo_carry.desc).map (fun d => d.parameters.length) = some 6 := by decide +kernel
theorem hd_Mo_isBroadcast_V : yMo_isBroadcast.cls = "SerialPlantModel" ∧ yMo_isBroadcast.cls ≠ "java/lang/invoke/MethodHandle" ∧ yMo_isBroadcast.cls ≠ "java/lang/invoke/VarHandle" ∧ (parseMethodDescriptor yMo_isBroadcast.desc).map (fun d => d.parameters.length) = some 1 := by decide +kernel
theorem hd_Mo_send_V : yMo_send.cls = "SerialPlantModel" ∧ yMo_send.cls ≠ "java/lang/invoke/MethodHandle" ∧ yMo_send.cls ≠ "java/lang/invoke/VarHandle" ∧ (parseMethodDescriptor yMo_send.desc).map (fun d => d.parameters.length) = some 1 := by decide +kernel
theorem hd_Mo_polls_V : yMo_polls.cls = "SerialPlantModel" ∧ yMo_polls.cls ≠ "java/lang/invoke/MethodHandle" ∧ yMo_polls.cls ≠ "java/lang/invoke/VarHandle" ∧ (parseMethodDescriptor yMo_polls.desc).map (fun d => d.parameters.length) = some 2 := by decide +kernel
theorem hd_Mo_goOn_V : yMo_goOn.cls = "SerialPlantModel" ∧ yMo_goOn.cls ≠ "java/lang/invoke/MethodHandle" ∧ yMo_goOn.cls ≠ "java/lang/invoke/VarHandle" ∧ (parseMethodDescriptor yMo_goOn.desc).map (fun d => d.parameters.length) = some 1 := by decide +kernel
theorem hd_Mo_begins_V : yMo_begins.cls = "SerialPlantModel" ∧ yMo_begins.cls ≠ "java/lang/invoke/MethodHandle" ∧ yMo_begins.cls ≠ "java/lang/invoke/VarHandle" ∧ (parseMethodDescriptor yMo_begins.desc).map (fun d => d.parameters.length) = some 1 := by decide +kernel
theorem hd_Pl_init_I : yPl_init.cls ≠ "java/lang/invoke/MethodHandle" ∧ yPl_init.cls ≠ "java/lang/invoke/VarHandle" ∧ (parseMethodDescriptor yPl_init.desc).map (fun d => d.parameters.length) = some 0 := by decide +kernel
theorem hd_Mo_init_I : yMo_init.cls ≠ "java/lang/invoke/MethodHandle" ∧ yMo_init.cls ≠ "java/lang/invoke/VarHandle" ∧ (parseMethodDescriptor yMo_init.desc).map (fun d => d.parameters.length) = some 0 := by decide +kernel
theorem hd_Pl_attach_V : yPl_attach.cls = "SerialPlant" ∧ yPl_attach.cls ≠ "java/lang/invoke/MethodHandle" ∧ yPl_attach.cls ≠ "java/lang/invoke/VarHandle" ∧ (parseMethodDescriptor yPl_attach.desc).map (fun d => d.parameters.length) = some 3 := by decide +kernel
theorem hd_Mo_attach_V : yMo_attach.cls = "SerialPlantModel" ∧ yMo_attach.cls ≠ "java/lang/invoke/MethodHandle" ∧ yMo_attach.cls ≠ "java/lang/invoke/VarHandle" ∧ (parseMethodDescriptor yMo_attach.desc).map (fun d => d.parameters.length) = some 3 := by decide +kernel
theorem hd_Pl_power_V : yPl_power.cls = "SerialPlant" ∧ yPl_power.cls ≠ "java/lang/invoke/MethodHandle" ∧ yPl_power.cls ≠ "java/lang/invoke/VarHandle" ∧ (parseMethodDescriptor yPl_power.desc).map (fun d => d.parameters.length) = some 2 := by decide +kernel
theorem hd_Mo_power_V : yMo_power.cls = "SerialPlantModel" ∧ yMo_power.cls ≠ "java/lang/invoke/MethodHandle" ∧ yMo_power.cls ≠ "java/lang/invoke/VarHandle" ∧ (parseMethodDescriptor yMo_power.desc).map (fun d => d.parameters.length) = some 2 := by decide +kernel
theorem hd_Pl_process_V : yPl_process.cls = "SerialPlant" ∧ yPl_process.cls ≠ "java/lang/invoke/MethodHandle" ∧ yPl_process.cls ≠ "java/lang/invoke/VarHandle" ∧ (parseMethodDescriptor yPl_process.desc).map (fun d => d.parameters.length) = some 4 := by decide +kernel
theorem hd_Mo_process_V : yMo_process.cls = "SerialPlantModel" ∧ yMo_process.cls ≠ "java/lang/invoke/MethodHandle" ∧ yMo_process.cls ≠ "java/lang/invoke/VarHandle" ∧ (parseMethodDescriptor yMo_process.desc).map (fun d => d.parameters.length) = some 4 := by decide +kernel
theorem hd_Pl_cell_V : yPl_cell.cls = "SerialPlant" ∧ yPl_cell.cls ≠ "java/lang/invoke/MethodHandle" ∧ yPl_cell.cls ≠ "java/lang/invoke/VarHandle" ∧ (parseMethodDescriptor yPl_cell.desc).map (fun d => d.parameters.length) = some 3 := by decide +kernel
theorem hd_Mo_cell_V : yMo_cell.cls = "SerialPlantModel" ∧ yMo_cell.cls ≠ "java/lang/invoke/MethodHandle" ∧ yMo_cell.cls ≠ "java/lang/invoke/VarHandle" ∧ (parseMethodDescriptor yMo_cell.desc).map (fun d => d.parameters.length) = some 3 := by decide +kernel
theorem hd_Pl_point_V : yPl_point.cls = "SerialPlant" ∧ yPl_point.cls ≠ "java/lang/invoke/MethodHandle" ∧ yPl_point.cls ≠ "java/lang/invoke/VarHandle" ∧ (parseMethodDescriptor yPl_point.desc).map (fun d => d.parameters.length) = some 3 := by decide +kernel
theorem hd_Mo_point_V : yMo_point.cls = "SerialPlantModel" ∧ yMo_point.cls ≠ "java/lang/invoke/MethodHandle" ∧ yMo_point.cls ≠ "java/lang/invoke/VarHandle" ∧ (parseMethodDescriptor yMo_point.desc).map (fun d => d.parameters.length) = some 3 := by decide +kernel
theorem hd_Pl_request_V : yPl_request.cls = "SerialPlant" ∧ yPl_request.cls ≠ "java/lang/invoke/MethodHandle" ∧ yPl_request.cls ≠ "java/lang/invoke/VarHandle" ∧ (parseMethodDescriptor yPl_request.desc).map (fun d => d.parameters.length) = some 5 := by decide +kernel
theorem hd_Mo_request_V : yMo_request.cls = "SerialPlantModel" ∧ yMo_request.cls ≠ "java/lang/invoke/MethodHandle" ∧ yMo_request.cls ≠ "java/lang/invoke/VarHandle" ∧ (parseMethodDescriptor yMo_request.desc).map (fun d => d.parameters.length) = some 5 := by decide +kernel
theorem hd_Pl_fault_V : yPl_fault.cls = "SerialPlant" ∧ yPl_fault.cls ≠ "java/lang/invoke/MethodHandle" ∧ yPl_fault.cls ≠ "java/lang/invoke/VarHandle" ∧ (parseMethodDescriptor yPl_fault.desc).map (fun d => d.parameters.length) = some 3 := by decide +kernel
theorem hd_Mo_fault_V : yMo_fault.cls = "SerialPlantModel" ∧ yMo_fault.cls ≠ "java/lang/invoke/MethodHandle" ∧ yMo_fault.cls ≠ "java/lang/invoke/VarHandle" ∧ (parseMethodDescriptor yMo_fault.desc).map (fun d => d.parameters.length) = some 3 := by decide +kernel
theorem hd_Pl_tick_V : yPl_tick.cls = "SerialPlant" ∧ yPl_tick.cls ≠ "java/lang/invoke/MethodHandle" ∧ yPl_tick.cls ≠ "java/lang/invoke/VarHandle" ∧ (parseMethodDescriptor yPl_tick.desc).map (fun d => d.parameters.length) = some 0 := by decide +kernel
theorem hd_Mo_tick_V : yMo_tick.cls = "SerialPlantModel" ∧ yMo_tick.cls ≠ "java/lang/invoke/MethodHandle" ∧ yMo_tick.cls ≠ "java/lang/invoke/VarHandle" ∧ (parseMethodDescriptor yMo_tick.desc).map (fun d => d.parameters.length) = some 0 := by decide +kernel
theorem hd_Pl_reply_V : yPl_reply.cls = "SerialPlant" ∧ yPl_reply.cls ≠ "java/lang/invoke/MethodHandle" ∧ yPl_reply.cls ≠ "java/lang/invoke/VarHandle" ∧ (parseMethodDescriptor yPl_reply.desc).map (fun d => d.parameters.length) = some 2 := by decide +kernel
theorem hd_Mo_reply_V : yMo_reply.cls = "SerialPlantModel" ∧ yMo_reply.cls ≠ "java/lang/invoke/MethodHandle" ∧ yMo_reply.cls ≠ "java/lang/invoke/VarHandle" ∧ (parseMethodDescriptor yMo_reply.desc).map (fun d => d.parameters.length) = some 2 := by decide +kernel
theorem hd_Pl_line_V : yPl_line.cls = "SerialPlant" ∧ yPl_line.cls ≠ "java/lang/invoke/MethodHandle" ∧ yPl_line.cls ≠ "java/lang/invoke/VarHandle" ∧ (parseMethodDescriptor yPl_line.desc).map (fun d => d.parameters.length) = some 2 := by decide +kernel
theorem hd_Mo_line_V : yMo_line.cls = "SerialPlantModel" ∧ yMo_line.cls ≠ "java/lang/invoke/MethodHandle" ∧ yMo_line.cls ≠ "java/lang/invoke/VarHandle" ∧ (parseMethodDescriptor yMo_line.desc).map (fun d => d.parameters.length) = some 2 := by decide +kernel
theorem hd_Pl_wire_V : yPl_wire.cls = "SerialPlant" ∧ yPl_wire.cls ≠ "java/lang/invoke/MethodHandle" ∧ yPl_wire.cls ≠ "java/lang/invoke/VarHandle" ∧ (parseMethodDescriptor yPl_wire.desc).map (fun d => d.parameters.length) = some 3 := by decide +kernel
theorem hd_Mo_wire_V : yMo_wire.cls = "SerialPlantModel" ∧ yMo_wire.cls ≠ "java/lang/invoke/MethodHandle" ∧ yMo_wire.cls ≠ "java/lang/invoke/VarHandle" ∧ (parseMethodDescriptor yMo_wire.desc).map (fun d => d.parameters.length) = some 3 := by decide +kernel
theorem hd_Pl_sample_V : yPl_sample.cls = "SerialPlant" ∧ yPl_sample.cls ≠ "java/lang/invoke/MethodHandle" ∧ yPl_sample.cls ≠ "java/lang/invoke/VarHandle" ∧ (parseMethodDescriptor yPl_sample.desc).map (fun d => d.parameters.length) = some 2 := by decide +kernel
theorem hd_Mo_sample_V : yMo_sample.cls = "SerialPlantModel" ∧ yMo_sample.cls ≠ "java/lang/invoke/MethodHandle" ∧ yMo_sample.cls ≠ "java/lang/invoke/VarHandle" ∧ (parseMethodDescriptor yMo_sample.desc).map (fun d => d.parameters.length) = some 2 := by decide +kernel
theorem hd_Pl_samples_V : yPl_samples.cls = "SerialPlant" ∧ yPl_samples.cls ≠ "java/lang/invoke/MethodHandle" ∧ yPl_samples.cls ≠ "java/lang/invoke/VarHandle" ∧ (parseMethodDescriptor yPl_samples.desc).map (fun d => d.parameters.length) = some 3 := by decide +kernel
theorem hd_Mo_samples_V : yMo_samples.cls = "SerialPlantModel" ∧ yMo_samples.cls ≠ "java/lang/invoke/MethodHandle" ∧ yMo_samples.cls ≠ "java/lang/invoke/VarHandle" ∧ (parseMethodDescriptor yMo_samples.desc).map (fun d => d.parameters.length) = some 3 := by decide +kernel
set_option maxRecDepth 100000 in
theorem F_Sl_9 {args : Array Value} {s : State} (hts : ∀ w ∈ lwG, w.before args s = true) : ∀ ci ∈ [5], Fk vwCl args s lwG "SerialPlant$Slave" 9 1 ci := fk1 (fk_mk "SerialPlant$Slave" TSl 9 "SerialPlant$Slave" rfl (Nat.le_of_ble_eq_true rfl) inSl (hts _ (lw_t 27 rfl rfl)) (fun _ h => h))
set_option maxRecDepth 100000 in
theorem F_Sl_15 {args : Array Value} {s : State} (hts : ∀ w ∈ lwG, w.before args s = true) : ∀ ci ∈ [5], Fk vwCl args s lwG "SerialPlant$Slave" 15 2 ci := fk1 (fk_mk "SerialPlant$Slave" TSl 9 "SerialPlant$Slave" rfl (Nat.le_of_ble_eq_true rfl) inSl (hts _ (lw_t 28 rfl rfl)) (fun _ h => h))
set_option maxRecDepth 100000 in
theorem F_Sl_18 {args : Array Value} {s : State} (hts : ∀ w ∈ lwG, w.before args s = true) : ∀ ci ∈ [5], Fk vwCl args s lwG "SerialPlant$Slave" 18 3 ci := fk1 (fk_mk "SerialPlant$Slave" TSl 9 "SerialPlant$Slave" rfl (Nat.le_of_ble_eq_true rfl) inSl (hts _ (lw_t 29 rfl rfl)) (fun _ h => h))
set_option maxRecDepth 100000 in
theorem F_Sl_21 {args : Array Value} {s : State} (hts : ∀ w ∈ lwG, w.before args s = true) : ∀ ci ∈ [5], Fk vwCl args s lwG "SerialPlant$Slave" 21 4 ci := fk1 (fk_mk "SerialPlant$Slave" TSl 9 "SerialPlant$Slave" rfl (Nat.le_of_ble_eq_true rfl) inSl (hts _ (lw_t 30 rfl rfl)) (fun _ h => h))
set_option maxRecDepth 100000 in
theorem F_Sl_24 {args : Array Value} {s : State} (hts : ∀ w ∈ lwG, w.before args s = true) : ∀ ci ∈ [5], Fk vwCl args s lwG "SerialPlant$Slave" 24 5 ci := fk1 (fk_mk "SerialPlant$Slave" TSl 9 "SerialPlant$Slave" rfl (Nat.le_of_ble_eq_true rfl) inSl (hts _ (lw_t 31 rfl rfl)) (fun _ h => h))
set_option maxRecDepth 100000 in
theorem F_Sl_28 {args : Array Value} {s : State} (hts : ∀ w ∈ lwG, w.before args s = true) : ∀ ci ∈ [5], Fk vwCl args s lwG "SerialPlant$Slave" 28 7 ci := fk1 (fk_mk "SerialPlant$Slave" TSl 9 "SerialPlant$Slave" rfl (Nat.le_of_ble_eq_true rfl) inSl (hts _ (lw_t 34 rfl rfl)) (fun _ h => h))
set_option maxRecDepth 100000 in
theorem F_Sl_32 {args : Array Value} {s : State} (hts : ∀ w ∈ lwG, w.before args s = true) : ∀ ci ∈ [5], Fk vwCl args s lwG "SerialPlant$Slave" 32 0 ci := fk1 (fk_mk "SerialPlant$Slave" TSl 9 "SerialPlant$Slave" rfl (Nat.le_of_ble_eq_true rfl) inSl (hts _ (lw_t 26 rfl rfl)) (fun _ h => h))
set_option maxRecDepth 100000 in
theorem F_Fr_9 {args : Array Value} {s : State} (hts : ∀ w ∈ lwG, w.before args s = true) : ∀ ci ∈ [0], Fk vwCl args s lwG "SerialPlant$Frame" 9 0 ci := fk1 (fk_mk "SerialPlant$Frame" TFr 2 "SerialPlant$Frame" rfl (Nat.le_of_ble_eq_true rfl) inFr (hts _ (lw_t 76 rfl rfl)) (fun _ h => h))
set_option maxRecDepth 100000 in
theorem F_Wa_10 {args : Array Value} {s : State} (hts : ∀ w ∈ lwG, w.before args s = true) : ∀ ci ∈ [6], Fk vwCl args s lwG "SerialPlant$Way" 10 0 ci := fk1 (fk_mk "SerialPlant$Way" TWa 2 "SerialPlant$Way" rfl (Nat.le_of_ble_eq_true rfl) inWa (hts _ (lw_t 84 rfl rfl)) (fun _ h => h))
set_option maxRecDepth 100000 in
theorem F_Li_12 {args : Array Value} {s : State} (hts : ∀ w ∈ lwG, w.before args s = true) : ∀ ci ∈ [2], Fk vwCl args s lwG "SerialPlant$Line" 12 1 ci := fk1 (fk_mk "SerialPlant$Line" TLi 9 "SerialPlant$Line" rfl (Nat.le_of_ble_eq_true rfl) inLi (hts _ (lw_t 96 rfl rfl)) (fun _ h => h))
set_option maxRecDepth 100000 in
theorem F_Li_18 {args : Array Value} {s : State} (hts : ∀ w ∈ lwG, w.before args s = true) : ∀ ci ∈ [2], Fk vwCl args s lwG "SerialPlant$Line" 18 2 ci := fk1 (fk_mk "SerialPlant$Line" TLi 9 "SerialPlant$Line" rfl (Nat.le_of_ble_eq_true rfl) inLi (hts _ (lw_t 98 rfl rfl)) (fun _ h => h))
set_option maxRecDepth 100000 in
theorem F_Li_23 {args : Array Value} {s : State} (hts : ∀ w ∈ lwG, w.before args s = true) : ∀ ci ∈ [2], Fk vwCl args s lwG "SerialPlant$Line" 23 3 ci := fk1 (fk_mk "SerialPlant$Line" TLi 9 "SerialPlant$Line" rfl (Nat.le_of_ble_eq_true rfl) inLi (hts _ (lw_t 100 rfl rfl)) (fun _ h => h))
set_option maxRecDepth 100000 in
theorem F_Li_27 {args : Array Value} {s : State} (hts : ∀ w ∈ lwG, w.before args s = true) : ∀ ci ∈ [2], Fk vwCl args s lwG "SerialPlant$Line" 27 8 ci := fk1 (fk_mk "SerialPlant$Line" TLi 9 "SerialPlant$Line" rfl (Nat.le_of_ble_eq_true rfl) inLi (hts _ (lw_t 108 rfl rfl)) (fun _ h => h))
set_option maxRecDepth 100000 in
theorem F_Li_31 {args : Array Value} {s : State} (hts : ∀ w ∈ lwG, w.before args s = true) : ∀ ci ∈ [2], Fk vwCl args s lwG "SerialPlant$Line" 31 0 ci := fk1 (fk_mk "SerialPlant$Line" TLi 9 "SerialPlant$Line" rfl (Nat.le_of_ble_eq_true rfl) inLi (hts _ (lw_t 94 rfl rfl)) (fun _ h => h))
set_option maxRecDepth 100000 in
theorem F_Hi_9 {args : Array Value} {s : State} (hts : ∀ w ∈ lwG, w.before args s = true) : ∀ ci ∈ [1], Fk vwCl args s lwG "SerialPlant$History" 9 0 ci := fk1 (fk_mk "SerialPlant$History" THi 6 "SerialPlant$History" rfl (Nat.le_of_ble_eq_true rfl) inHi (hts _ (lw_t 139 rfl rfl)) (fun _ h => h))
set_option maxRecDepth 100000 in
theorem F_Hi_15 {args : Array Value} {s : State} (hts : ∀ w ∈ lwG, w.before args s = true) : ∀ ci ∈ [1], Fk vwCl args s lwG "SerialPlant$History" 15 1 ci := fk1 (fk_mk "SerialPlant$History" THi 6 "SerialPlant$History" rfl (Nat.le_of_ble_eq_true rfl) inHi (hts _ (lw_t 140 rfl rfl)) (fun _ h => h))
set_option maxRecDepth 100000 in
theorem F_Hi_18 {args : Array Value} {s : State} (hts : ∀ w ∈ lwG, w.before args s = true) : ∀ ci ∈ [1], Fk vwCl args s lwG "SerialPlant$History" 18 2 ci := fk1 (fk_mk "SerialPlant$History" THi 6 "SerialPlant$History" rfl (Nat.le_of_ble_eq_true rfl) inHi (hts _ (lw_t 141 rfl rfl)) (fun _ h => h))
set_option maxRecDepth 100000 in
theorem F_Hi_21 {args : Array Value} {s : State} (hts : ∀ w ∈ lwG, w.before args s = true) : ∀ ci ∈ [1], Fk vwCl args s lwG "SerialPlant$History" 21 3 ci := fk1 (fk_mk "SerialPlant$History" THi 6 "SerialPlant$History" rfl (Nat.le_of_ble_eq_true rfl) inHi (hts _ (lw_t 142 rfl rfl)) (fun _ h => h))
set_option maxRecDepth 100000 in
theorem F_Pl_11 {args : Array Value} {s : State} (hts : ∀ w ∈ lwG, w.before args s = true) : ∀ ci ∈ [7], Fk vwCl args s lwG "SerialPlant" 11 0 ci := fk1 (fk_mk "SerialPlant" TPl 8 "SerialPlant" rfl (Nat.le_of_ble_eq_true rfl) inPl (hts _ (lw_t 158 rfl rfl)) (fun _ h => h))
set_option maxRecDepth 100000 in
theorem F_Pl_20 {args : Array Value} {s : State} (hts : ∀ w ∈ lwG, w.before args s = true) : ∀ ci ∈ [7], Fk vwCl args s lwG "SerialPlant" 20 1 ci := fk1 (fk_mk "SerialPlant" TPl 8 "SerialPlant" rfl (Nat.le_of_ble_eq_true rfl) inPl (hts _ (lw_t 159 rfl rfl)) (fun _ h => h))
set_option maxRecDepth 100000 in
theorem F_Pl_27 {args : Array Value} {s : State} (hts : ∀ w ∈ lwG, w.before args s = true) : ∀ ci ∈ [7], Fk vwCl args s lwG "SerialPlant" 27 2 ci := fk1 (fk_mk "SerialPlant" TPl 8 "SerialPlant" rfl (Nat.le_of_ble_eq_true rfl) inPl (hts _ (lw_t 160 rfl rfl)) (fun _ h => h))
set_option maxRecDepth 100000 in
theorem F_Pl_33 {args : Array Value} {s : State} (hts : ∀ w ∈ lwG, w.before args s = true) : ∀ ci ∈ [7], Fk vwCl args s lwG "SerialPlant" 33 3 ci := fk1 (fk_mk "SerialPlant" TPl 8 "SerialPlant" rfl (Nat.le_of_ble_eq_true rfl) inPl (hts _ (lw_t 161 rfl rfl)) (fun _ h => h))
set_option maxRecDepth 100000 in
theorem F_Pl_40 {args : Array Value} {s : State} (hts : ∀ w ∈ lwG, w.before args s = true) : ∀ ci ∈ [7], Fk vwCl args s lwG "SerialPlant" 40 4 ci := fk1 (fk_mk "SerialPlant" TPl 8 "SerialPlant" rfl (Nat.le_of_ble_eq_true rfl) inPl (hts _ (lw_t 162 rfl rfl)) (fun _ h => h))
set_option maxRecDepth 100000 in
theorem F_Pl_59 {args : Array Value} {s : State} (hts : ∀ w ∈ lwG, w.before args s = true) : ∀ ci ∈ [5], Fk vwCl args s lwG "SerialPlant" 59 5 ci := fk1 (fk_mk "SerialPlant$Slave" TSl 9 "SerialPlant$Slave" rfl (Nat.le_of_ble_eq_true rfl) inSl (hts _ (lw_t 32 rfl rfl)) (fun _ h => h))
set_option maxRecDepth 100000 in
theorem F_Pl_63 {args : Array Value} {s : State} (hts : ∀ w ∈ lwG, w.before args s = true) : ∀ ci ∈ [5], Fk vwCl args s lwG "SerialPlant" 63 6 ci := fk1 (fk_mk "SerialPlant$Slave" TSl 9 "SerialPlant$Slave" rfl (Nat.le_of_ble_eq_true rfl) inSl (hts _ (lw_t 33 rfl rfl)) (fun _ h => h))
set_option maxRecDepth 100000 in
theorem F_Pl_66 {args : Array Value} {s : State} (hts : ∀ w ∈ lwG, w.before args s = true) : ∀ ci ∈ [5], Fk vwCl args s lwG "SerialPlant" 66 7 ci := fk1 (fk_mk "SerialPlant$Slave" TSl 9 "SerialPlant$Slave" rfl (Nat.le_of_ble_eq_true rfl) inSl (hts _ (lw_t 35 rfl rfl)) (fun _ h => h))
set_option maxRecDepth 100000 in
theorem F_Jo_9 {args : Array Value} {s : State} (hts : ∀ w ∈ lwG, w.before args s = true) : ∀ ci ∈ [3, 4], Fk vwCl args s lwG "SerialPlant$Job" 9 0 ci := fk2 (fk_mk "SerialPlant$Poll" TPo 8 "SerialPlant$Job" rfl (Nat.le_of_ble_eq_true rfl) inPo (hts _ (lw_t 238 rfl rfl)) (fun _ h => h)) (fk_mk "SerialPlant$Request" TRe 9 "SerialPlant$Job" rfl (Nat.le_of_ble_eq_true rfl) inRe (hts _ (lw_t 238 rfl rfl)) (fun _ h => h))
set_option maxRecDepth 100000 in
theorem F_Jo_15 {args : Array Value} {s : State} (hts : ∀ w ∈ lwG, w.before args s = true) : ∀ ci ∈ [3, 4], Fk vwCl args s lwG "SerialPlant$Job" 15 1 ci := fk2 (fk_mk "SerialPlant$Poll" TPo 8 "SerialPlant$Job" rfl (Nat.le_of_ble_eq_true rfl) inPo (hts _ (lw_t 240 rfl rfl)) (fun _ h => h)) (fk_mk "SerialPlant$Request" TRe 9 "SerialPlant$Job" rfl (Nat.le_of_ble_eq_true rfl) inRe (hts _ (lw_t 240 rfl rfl)) (fun _ h => h))
set_option maxRecDepth 100000 in
theorem F_Jo_18 {args : Array Value} {s : State} (hts : ∀ w ∈ lwG, w.before args s = true) : ∀ ci ∈ [3, 4], Fk vwCl args s lwG "SerialPlant$Job" 18 2 ci := fk2 (fk_mk "SerialPlant$Poll" TPo 8 "SerialPlant$Job" rfl (Nat.le_of_ble_eq_true rfl) inPo (hts _ (lw_t 243 rfl rfl)) (fun _ h => h)) (fk_mk "SerialPlant$Request" TRe 9 "SerialPlant$Job" rfl (Nat.le_of_ble_eq_true rfl) inRe (hts _ (lw_t 243 rfl rfl)) (fun _ h => h))
set_option maxRecDepth 100000 in
theorem F_Jo_21 {args : Array Value} {s : State} (hts : ∀ w ∈ lwG, w.before args s = true) : ∀ ci ∈ [3, 4], Fk vwCl args s lwG "SerialPlant$Job" 21 3 ci := fk2 (fk_mk "SerialPlant$Poll" TPo 8 "SerialPlant$Job" rfl (Nat.le_of_ble_eq_true rfl) inPo (hts _ (lw_t 247 rfl rfl)) (fun _ h => h)) (fk_mk "SerialPlant$Request" TRe 9 "SerialPlant$Job" rfl (Nat.le_of_ble_eq_true rfl) inRe (hts _ (lw_t 247 rfl rfl)) (fun _ h => h))
set_option maxRecDepth 100000 in
theorem F_Jo_24 {args : Array Value} {s : State} (hts : ∀ w ∈ lwG, w.before args s = true) : ∀ ci ∈ [3, 4], Fk vwCl args s lwG "SerialPlant$Job" 24 4 ci := fk2 (fk_mk "SerialPlant$Poll" TPo 8 "SerialPlant$Job" rfl (Nat.le_of_ble_eq_true rfl) inPo (hts _ (lw_t 249 rfl rfl)) (fun _ h => h)) (fk_mk "SerialPlant$Request" TRe 9 "SerialPlant$Job" rfl (Nat.le_of_ble_eq_true rfl) inRe (hts _ (lw_t 249 rfl rfl)) (fun _ h => h))
set_option maxRecDepth 100000 in
theorem F_Jo_27 {args : Array Value} {s : State} (hts : ∀ w ∈ lwG, w.before args s = true) : ∀ ci ∈ [3, 4], Fk vwCl args s lwG "SerialPlant$Job" 27 5 ci := fk2 (fk_mk "SerialPlant$Poll" TPo 8 "SerialPlant$Job" rfl (Nat.le_of_ble_eq_true rfl) inPo (hts _ (lw_t 253 rfl rfl)) (fun _ h => h)) (fk_mk "SerialPlant$Request" TRe 9 "SerialPlant$Job" rfl (Nat.le_of_ble_eq_true rfl) inRe (hts _ (lw_t 253 rfl rfl)) (fun _ h => h))
set_option maxRecDepth 100000 in
theorem F_Po_9 {args : Array Value} {s : State} (hts : ∀ w ∈ lwG, w.before args s = true) : ∀ ci ∈ [3], Fk vwCl args s lwG "SerialPlant$Poll" 9 6 ci := fk1 (fk_mk "SerialPlant$Poll" TPo 8 "SerialPlant$Poll" rfl (Nat.le_of_ble_eq_true rfl) inPo (hts _ (lw_t 236 rfl rfl)) (fun _ h => h))
set_option maxRecDepth 100000 in
theorem F_Po_15 {args : Array Value} {s : State} (hts : ∀ w ∈ lwG, w.before args s = true) : ∀ ci ∈ [3], Fk vwCl args s lwG "SerialPlant$Poll" 15 7 ci := fk1 (fk_mk "SerialPlant$Poll" TPo 8 "SerialPlant$Poll" rfl (Nat.le_of_ble_eq_true rfl) inPo (hts _ (lw_t 237 rfl rfl)) (fun _ h => h))
set_option maxRecDepth 100000 in
theorem F_Pl_82 {args : Array Value} {s : State} (hts : ∀ w ∈ lwG, w.before args s = true) : ∀ ci ∈ [7], Fk vwCl args s lwG "SerialPlant" 82 6 ci := fk1 (fk_mk "SerialPlant" TPl 8 "SerialPlant" rfl (Nat.le_of_ble_eq_true rfl) inPl (hts _ (lw_t 164 rfl rfl)) (fun _ h => h))
set_option maxRecDepth 100000 in
theorem F_Re_9 {args : Array Value} {s : State} (hts : ∀ w ∈ lwG, w.before args s = true) : ∀ ci ∈ [4], Fk vwCl args s lwG "SerialPlant$Request" 9 6 ci := fk1 (fk_mk "SerialPlant$Request" TRe 9 "SerialPlant$Request" rfl (Nat.le_of_ble_eq_true rfl) inRe (hts _ (lw_t 280 rfl rfl)) (fun _ h => h))
set_option maxRecDepth 100000 in
theorem F_Li_34 {args : Array Value} {s : State} (hts : ∀ w ∈ lwG, w.before args s = true) : ∀ ci ∈ [2], Fk vwCl args s lwG "SerialPlant$Line" 34 4 ci := fk1 (fk_mk "SerialPlant$Line" TLi 9 "SerialPlant$Line" rfl (Nat.le_of_ble_eq_true rfl) inLi (hts _ (lw_t 101 rfl rfl)) (fun _ h => h))
set_option maxRecDepth 100000 in
theorem F_Pl_176 {args : Array Value} {s : State} (hts : ∀ w ∈ lwG, w.before args s = true) : ∀ ci ∈ [3, 4], Fk vwCl args s lwG "SerialPlant" 176 1 ci := fk2 (fk_mk "SerialPlant$Poll" TPo 8 "SerialPlant$Job" rfl (Nat.le_of_ble_eq_true rfl) inPo (hts _ (lw_t 242 rfl rfl)) (fun _ h => h)) (fk_mk "SerialPlant$Request" TRe 9 "SerialPlant$Job" rfl (Nat.le_of_ble_eq_true rfl) inRe (hts _ (lw_t 242 rfl rfl)) (fun _ h => h))
set_option maxRecDepth 100000 in
theorem F_Re_15 {args : Array Value} {s : State} (hts : ∀ w ∈ lwG, w.before args s = true) : ∀ ci ∈ [4], Fk vwCl args s lwG "SerialPlant$Request" 15 7 ci := fk1 (fk_mk "SerialPlant$Request" TRe 9 "SerialPlant$Request" rfl (Nat.le_of_ble_eq_true rfl) inRe (hts _ (lw_t 282 rfl rfl)) (fun _ h => h))
set_option maxRecDepth 100000 in
theorem F_Pl_119 {args : Array Value} {s : State} (hts : ∀ w ∈ lwG, w.before args s = true) : ∀ ci ∈ [4], Fk vwCl args s lwG "SerialPlant" 119 6 ci := fk1 (fk_mk "SerialPlant$Request" TRe 9 "SerialPlant$Request" rfl (Nat.le_of_ble_eq_true rfl) inRe (hts _ (lw_t 281 rfl rfl)) (fun _ h => h))
set_option maxRecDepth 100000 in
theorem F_Pl_88 {args : Array Value} {s : State} (hts : ∀ w ∈ lwG, w.before args s = true) : ∀ ci ∈ [7], Fk vwCl args s lwG "SerialPlant" 88 5 ci := fk1 (fk_mk "SerialPlant" TPl 8 "SerialPlant" rfl (Nat.le_of_ble_eq_true rfl) inPl (hts _ (lw_t 163 rfl rfl)) (fun _ h => h))
set_option maxRecDepth 100000 in
theorem F_Wa_16 {args : Array Value} {s : State} (hts : ∀ w ∈ lwG, w.before args s = true) : ∀ ci ∈ [6], Fk vwCl args s lwG "SerialPlant$Way" 16 1 ci := fk1 (fk_mk "SerialPlant$Way" TWa 2 "SerialPlant$Way" rfl (Nat.le_of_ble_eq_true rfl) inWa (hts _ (lw_t 86 rfl rfl)) (fun _ h => h))
set_option maxRecDepth 100000 in
theorem F_Li_37 {args : Array Value} {s : State} (hts : ∀ w ∈ lwG, w.before args s = true) : ∀ ci ∈ [2], Fk vwCl args s lwG "SerialPlant$Line" 37 5 ci := fk1 (fk_mk "SerialPlant$Line" TLi 9 "SerialPlant$Line" rfl (Nat.le_of_ble_eq_true rfl) inLi (hts _ (lw_t 103 rfl rfl)) (fun _ h => h))
set_option maxRecDepth 100000 in
theorem F_Li_41 {args : Array Value} {s : State} (hts : ∀ w ∈ lwG, w.before args s = true) : ∀ ci ∈ [2], Fk vwCl args s lwG "SerialPlant$Line" 41 6 ci := fk1 (fk_mk "SerialPlant$Line" TLi 9 "SerialPlant$Line" rfl (Nat.le_of_ble_eq_true rfl) inLi (hts _ (lw_t 105 rfl rfl)) (fun _ h => h))
set_option maxRecDepth 100000 in
theorem F_Fr_15 {args : Array Value} {s : State} (hts : ∀ w ∈ lwG, w.before args s = true) : ∀ ci ∈ [0], Fk vwCl args s lwG "SerialPlant$Frame" 15 1 ci := fk1 (fk_mk "SerialPlant$Frame" TFr 2 "SerialPlant$Frame" rfl (Nat.le_of_ble_eq_true rfl) inFr (hts _ (lw_t 77 rfl rfl)) (fun _ h => h))
set_option maxRecDepth 100000 in
theorem F_Hi_24 {args : Array Value} {s : State} (hts : ∀ w ∈ lwG, w.before args s = true) : ∀ ci ∈ [1], Fk vwCl args s lwG "SerialPlant$History" 24 4 ci := fk1 (fk_mk "SerialPlant$History" THi 6 "SerialPlant$History" rfl (Nat.le_of_ble_eq_true rfl) inHi (hts _ (lw_t 143 rfl rfl)) (fun _ h => h))
set_option maxRecDepth 100000 in
theorem F_Hi_28 {args : Array Value} {s : State} (hts : ∀ w ∈ lwG, w.before args s = true) : ∀ ci ∈ [1], Fk vwCl args s lwG "SerialPlant$History" 28 5 ci := fk1 (fk_mk "SerialPlant$History" THi 6 "SerialPlant$History" rfl (Nat.le_of_ble_eq_true rfl) inHi (hts _ (lw_t 144 rfl rfl)) (fun _ h => h))
set_option maxRecDepth 100000 in
theorem F_Re_52 {args : Array Value} {s : State} (hts : ∀ w ∈ lwG, w.before args s = true) : ∀ ci ∈ [4], Fk vwCl args s lwG "SerialPlant$Request" 52 4 ci := fk1 (fk_mk "SerialPlant$Request" TRe 9 "SerialPlant$Request" rfl (Nat.le_of_ble_eq_true rfl) inRe (hts _ (lw_t 251 rfl rfl)) (u_same (hts _ (lw_t 252 rfl rfl))))
set_option maxRecDepth 100000 in
theorem F_Re_36 {args : Array Value} {s : State} (hts : ∀ w ∈ lwG, w.before args s = true) : ∀ ci ∈ [4], Fk vwCl args s lwG "SerialPlant$Request" 36 2 ci := fk1 (fk_mk "SerialPlant$Request" TRe 9 "SerialPlant$Request" rfl (Nat.le_of_ble_eq_true rfl) inRe (hts _ (lw_t 244 rfl rfl)) (u_same (hts _ (lw_t 245 rfl rfl))))
set_option maxRecDepth 100000 in
theorem F_Re_32 {args : Array Value} {s : State} (hts : ∀ w ∈ lwG, w.before args s = true) : ∀ ci ∈ [4], Fk vwCl args s lwG "SerialPlant$Request" 32 8 ci := fk1 (fk_mk "SerialPlant$Request" TRe 9 "SerialPlant$Request" rfl (Nat.le_of_ble_eq_true rfl) inRe (hts _ (lw_t 284 rfl rfl)) (fun _ h => h))
set_option maxRecDepth 100000 in
theorem F_Pl_135 {args : Array Value} {s : State} (hts : ∀ w ∈ lwG, w.before args s = true) : ∀ ci ∈ [2], Fk vwCl args s lwG "SerialPlant" 135 5 ci := fk1 (fk_mk "SerialPlant$Line" TLi 9 "SerialPlant$Line" rfl (Nat.le_of_ble_eq_true rfl) inLi (hts _ (lw_t 104 rfl rfl)) (fun _ h => h))
set_option maxRecDepth 100000 in
theorem F_Pl_203 {args : Array Value} {s : State} (hts : ∀ w ∈ lwG, w.before args s = true) : ∀ ci ∈ [2], Fk vwCl args s lwG "SerialPlant" 203 8 ci := fk1 (fk_mk "SerialPlant$Line" TLi 9 "SerialPlant$Line" rfl (Nat.le_of_ble_eq_true rfl) inLi (hts _ (lw_t 109 rfl rfl)) (fun _ h => h))
set_option maxRecDepth 100000 in
theorem F_Pl_107 {args : Array Value} {s : State} (hts : ∀ w ∈ lwG, w.before args s = true) : ∀ ci ∈ [7], Fk vwCl args s lwG "SerialPlant" 107 7 ci := fk1 (fk_mk "SerialPlant" TPl 8 "SerialPlant" rfl (Nat.le_of_ble_eq_true rfl) inPl (hts _ (lw_t 165 rfl rfl)) (fun _ h => h))
set_option maxRecDepth 100000 in
theorem F_Pl_209 {args : Array Value} {s : State} (hts : ∀ w ∈ lwG, w.before args s = true) : ∀ ci ∈ [2], Fk vwCl args s lwG "SerialPlant" 209 2 ci := fk1 (fk_mk "SerialPlant$Line" TLi 9 "SerialPlant$Line" rfl (Nat.le_of_ble_eq_true rfl) inLi (hts _ (lw_t 99 rfl rfl)) (fun _ h => h))
set_option maxRecDepth 100000 in
theorem F_Pl_144 {args : Array Value} {s : State} (hts : ∀ w ∈ lwG, w.before args s = true) : ∀ ci ∈ [6], Fk vwCl args s lwG "SerialPlant" 144 0 ci := fk1 (fk_mk "SerialPlant$Way" TWa 2 "SerialPlant$Way" rfl (Nat.le_of_ble_eq_true rfl) inWa (hts _ (lw_t 85 rfl rfl)) (fun _ h => h))
set_option maxRecDepth 100000 in
theorem F_Li_44 {args : Array Value} {s : State} (hts : ∀ w ∈ lwG, w.before args s = true) : ∀ ci ∈ [2], Fk vwCl args s lwG "SerialPlant$Line" 44 7 ci := fk1 (fk_mk "SerialPlant$Line" TLi 9 "SerialPlant$Line" rfl (Nat.le_of_ble_eq_true rfl) inLi (hts _ (lw_t 107 rfl rfl)) (fun _ h => h))
set_option maxRecDepth 100000 in
theorem F_Sl_41 {args : Array Value} {s : State} (hts : ∀ w ∈ lwG, w.before args s = true) : ∀ ci ∈ [3, 4], Fk vwCl args s lwG "SerialPlant$Slave" 41 1 ci := fk2 (fk_mk "SerialPlant$Poll" TPo 8 "SerialPlant$Job" rfl (Nat.le_of_ble_eq_true rfl) inPo (hts _ (lw_t 241 rfl rfl)) (fun _ h => h)) (fk_mk "SerialPlant$Request" TRe 9 "SerialPlant$Job" rfl (Nat.le_of_ble_eq_true rfl) inRe (hts _ (lw_t 241 rfl rfl)) (fun _ h => h))
set_option maxRecDepth 100000 in
theorem F_Sl_44 {args : Array Value} {s : State} (hts : ∀ w ∈ lwG, w.before args s = true) : ∀ ci ∈ [5], Fk vwCl args s lwG "SerialPlant$Slave" 44 8 ci := fk1 (fk_mk "SerialPlant$Slave" TSl 9 "SerialPlant$Slave" rfl (Nat.le_of_ble_eq_true rfl) inSl (hts _ (lw_t 36 rfl rfl)) (fun _ h => h))
set_option maxRecDepth 100000 in
theorem F_Sl_47 {args : Array Value} {s : State} (hts : ∀ w ∈ lwG, w.before args s = true) : ∀ ci ∈ [3, 4], Fk vwCl args s lwG "SerialPlant$Slave" 47 2 ci := fk2 (fk_mk "SerialPlant$Poll" TPo 8 "SerialPlant$Job" rfl (Nat.le_of_ble_eq_true rfl) inPo (hts _ (lw_t 246 rfl rfl)) (fun _ h => h)) (fk_mk "SerialPlant$Request" TRe 9 "SerialPlant$Job" rfl (Nat.le_of_ble_eq_true rfl) inRe (hts _ (lw_t 246 rfl rfl)) (fun _ h => h))
set_option maxRecDepth 100000 in
theorem F_Sl_58 {args : Array Value} {s : State} (hts : ∀ w ∈ lwG, w.before args s = true) : ∀ ci ∈ [3, 4], Fk vwCl args s lwG "SerialPlant$Slave" 58 3 ci := fk2 (fk_mk "SerialPlant$Poll" TPo 8 "SerialPlant$Job" rfl (Nat.le_of_ble_eq_true rfl) inPo (hts _ (lw_t 248 rfl rfl)) (fun _ h => h)) (fk_mk "SerialPlant$Request" TRe 9 "SerialPlant$Job" rfl (Nat.le_of_ble_eq_true rfl) inRe (hts _ (lw_t 248 rfl rfl)) (fun _ h => h))
set_option maxRecDepth 100000 in
theorem F_Sl_78 {args : Array Value} {s : State} (hts : ∀ w ∈ lwG, w.before args s = true) : ∀ ci ∈ [3, 4], Fk vwCl args s lwG "SerialPlant$Slave" 78 4 ci := fk2 (fk_mk "SerialPlant$Poll" TPo 8 "SerialPlant$Job" rfl (Nat.le_of_ble_eq_true rfl) inPo (hts _ (lw_t 250 rfl rfl)) (fun _ h => h)) (fk_mk "SerialPlant$Request" TRe 9 "SerialPlant$Job" rfl (Nat.le_of_ble_eq_true rfl) inRe (hts _ (lw_t 250 rfl rfl)) (fun _ h => h))
set_option maxRecDepth 100000 in
theorem F_Pl_237 {args : Array Value} {s : State} (hts : ∀ w ∈ lwG, w.before args s = true) : ∀ ci ∈ [2], Fk vwCl args s lwG "SerialPlant" 237 0 ci := fk1 (fk_mk "SerialPlant$Line" TLi 9 "SerialPlant$Line" rfl (Nat.le_of_ble_eq_true rfl) inLi (hts _ (lw_t 95 rfl rfl)) (fun _ h => h))
set_option maxRecDepth 100000 in
theorem F_Pl_220 {args : Array Value} {s : State} (hts : ∀ w ∈ lwG, w.before args s = true) : ∀ ci ∈ [2], Fk vwCl args s lwG "SerialPlant" 220 1 ci := fk1 (fk_mk "SerialPlant$Line" TLi 9 "SerialPlant$Line" rfl (Nat.le_of_ble_eq_true rfl) inLi (hts _ (lw_t 97 rfl rfl)) (fun _ h => h))
set_option maxRecDepth 100000 in
theorem F_Pl_122 {args : Array Value} {s : State} (hts : ∀ w ∈ lwG, w.before args s = true) : ∀ ci ∈ [4], Fk vwCl args s lwG "SerialPlant" 122 7 ci := fk1 (fk_mk "SerialPlant$Request" TRe 9 "SerialPlant$Request" rfl (Nat.le_of_ble_eq_true rfl) inRe (hts _ (lw_t 283 rfl rfl)) (fun _ h => h))
set_option maxRecDepth 100000 in
theorem F_Pl_125 {args : Array Value} {s : State} (hts : ∀ w ∈ lwG, w.before args s = true) : ∀ ci ∈ [4], Fk vwCl args s lwG "SerialPlant" 125 8 ci := fk1 (fk_mk "SerialPlant$Request" TRe 9 "SerialPlant$Request" rfl (Nat.le_of_ble_eq_true rfl) inRe (hts _ (lw_t 285 rfl rfl)) (fun _ h => h))
set_option maxRecDepth 100000 in
theorem F_Pl_129 {args : Array Value} {s : State} (hts : ∀ w ∈ lwG, w.before args s = true) : ∀ ci ∈ [2], Fk vwCl args s lwG "SerialPlant" 129 4 ci := fk1 (fk_mk "SerialPlant$Line" TLi 9 "SerialPlant$Line" rfl (Nat.le_of_ble_eq_true rfl) inLi (hts _ (lw_t 102 rfl rfl)) (fun _ h => h))
set_option maxRecDepth 100000 in
theorem F_Pl_132 {args : Array Value} {s : State} (hts : ∀ w ∈ lwG, w.before args s = true) : ∀ ci ∈ [2], Fk vwCl args s lwG "SerialPlant" 132 6 ci := fk1 (fk_mk "SerialPlant$Line" TLi 9 "SerialPlant$Line" rfl (Nat.le_of_ble_eq_true rfl) inLi (hts _ (lw_t 106 rfl rfl)) (fun _ h => h))
set_option maxRecDepth 100000 in
theorem F_Pl_139 {args : Array Value} {s : State} (hts : ∀ w ∈ lwG, w.before args s = true) : ∀ ci ∈ [3, 4], Fk vwCl args s lwG "SerialPlant" 139 0 ci := fk2 (fk_mk "SerialPlant$Poll" TPo 8 "SerialPlant$Job" rfl (Nat.le_of_ble_eq_true rfl) inPo (hts _ (lw_t 239 rfl rfl)) (fun _ h => h)) (fk_mk "SerialPlant$Request" TRe 9 "SerialPlant$Job" rfl (Nat.le_of_ble_eq_true rfl) inRe (hts _ (lw_t 239 rfl rfl)) (fun _ h => h))
set_option maxRecDepth 100000 in
theorem F_Pl_148 {args : Array Value} {s : State} (hts : ∀ w ∈ lwG, w.before args s = true) : ∀ ci ∈ [0], Fk vwCl args s lwG "SerialPlant" 148 1 ci := fk1 (fk_mk "SerialPlant$Frame" TFr 2 "SerialPlant$Frame" rfl (Nat.le_of_ble_eq_true rfl) inFr (hts _ (lw_t 78 rfl rfl)) (fun _ h => h))
set_option maxRecDepth 100000 in
theorem F_Mo_7 {args : Array Value} {s : State} (hts : ∀ w ∈ lwG, w.before args s = true) : ∀ ci ∈ [8], Fk vwCl args s lwG "SerialPlantModel" 7 1 ci := fk1 (fk_mk "SerialPlantModel" TMo 41 "SerialPlantModel" rfl (Nat.le_of_ble_eq_true rfl) inMo (hts _ (lw_t 603 rfl rfl)) (fun _ h => h))
set_option maxRecDepth 100000 in
theorem F_Mo_13 {args : Array Value} {s : State} (hts : ∀ w ∈ lwG, w.before args s = true) : ∀ ci ∈ [8], Fk vwCl args s lwG "SerialPlantModel" 13 2 ci := fk1 (fk_mk "SerialPlantModel" TMo 41 "SerialPlantModel" rfl (Nat.le_of_ble_eq_true rfl) inMo (hts _ (lw_t 604 rfl rfl)) (fun _ h => h))
set_option maxRecDepth 100000 in
theorem F_Mo_17 {args : Array Value} {s : State} (hts : ∀ w ∈ lwG, w.before args s = true) : ∀ ci ∈ [8], Fk vwCl args s lwG "SerialPlantModel" 17 3 ci := fk1 (fk_mk "SerialPlantModel" TMo 41 "SerialPlantModel" rfl (Nat.le_of_ble_eq_true rfl) inMo (hts _ (lw_t 605 rfl rfl)) (fun _ h => h))
set_option maxRecDepth 100000 in
theorem F_Mo_20 {args : Array Value} {s : State} (hts : ∀ w ∈ lwG, w.before args s = true) : ∀ ci ∈ [8], Fk vwCl args s lwG "SerialPlantModel" 20 4 ci := fk1 (fk_mk "SerialPlantModel" TMo 41 "SerialPlantModel" rfl (Nat.le_of_ble_eq_true rfl) inMo (hts _ (lw_t 606 rfl rfl)) (fun _ h => h))
set_option maxRecDepth 100000 in
theorem F_Mo_23 {args : Array Value} {s : State} (hts : ∀ w ∈ lwG, w.before args s = true) : ∀ ci ∈ [8], Fk vwCl args s lwG "SerialPlantModel" 23 5 ci := fk1 (fk_mk "SerialPlantModel" TMo 41 "SerialPlantModel" rfl (Nat.le_of_ble_eq_true rfl) inMo (hts _ (lw_t 607 rfl rfl)) (fun _ h => h))
set_option maxRecDepth 100000 in
theorem F_Mo_26 {args : Array Value} {s : State} (hts : ∀ w ∈ lwG, w.before args s = true) : ∀ ci ∈ [8], Fk vwCl args s lwG "SerialPlantModel" 26 6 ci := fk1 (fk_mk "SerialPlantModel" TMo 41 "SerialPlantModel" rfl (Nat.le_of_ble_eq_true rfl) inMo (hts _ (lw_t 608 rfl rfl)) (fun _ h => h))
set_option maxRecDepth 100000 in
theorem F_Mo_29 {args : Array Value} {s : State} (hts : ∀ w ∈ lwG, w.before args s = true) : ∀ ci ∈ [8], Fk vwCl args s lwG "SerialPlantModel" 29 7 ci := fk1 (fk_mk "SerialPlantModel" TMo 41 "SerialPlantModel" rfl (Nat.le_of_ble_eq_true rfl) inMo (hts _ (lw_t 609 rfl rfl)) (fun _ h => h))
set_option maxRecDepth 100000 in
theorem F_Mo_32 {args : Array Value} {s : State} (hts : ∀ w ∈ lwG, w.before args s = true) : ∀ ci ∈ [8], Fk vwCl args s lwG "SerialPlantModel" 32 8 ci := fk1 (fk_mk "SerialPlantModel" TMo 41 "SerialPlantModel" rfl (Nat.le_of_ble_eq_true rfl) inMo (hts _ (lw_t 610 rfl rfl)) (fun _ h => h))
set_option maxRecDepth 100000 in
theorem F_Mo_35 {args : Array Value} {s : State} (hts : ∀ w ∈ lwG, w.before args s = true) : ∀ ci ∈ [8], Fk vwCl args s lwG "SerialPlantModel" 35 9 ci := fk1 (fk_mk "SerialPlantModel" TMo 41 "SerialPlantModel" rfl (Nat.le_of_ble_eq_true rfl) inMo (hts _ (lw_t 611 rfl rfl)) (fun _ h => h))
set_option maxRecDepth 100000 in
theorem F_Mo_38 {args : Array Value} {s : State} (hts : ∀ w ∈ lwG, w.before args s = true) : ∀ ci ∈ [8], Fk vwCl args s lwG "SerialPlantModel" 38 11 ci := fk1 (fk_mk "SerialPlantModel" TMo 41 "SerialPlantModel" rfl (Nat.le_of_ble_eq_true rfl) inMo (hts _ (lw_t 613 rfl rfl)) (fun _ h => h))
set_option maxRecDepth 100000 in
theorem F_Mo_41 {args : Array Value} {s : State} (hts : ∀ w ∈ lwG, w.before args s = true) : ∀ ci ∈ [8], Fk vwCl args s lwG "SerialPlantModel" 41 12 ci := fk1 (fk_mk "SerialPlantModel" TMo 41 "SerialPlantModel" rfl (Nat.le_of_ble_eq_true rfl) inMo (hts _ (lw_t 614 rfl rfl)) (fun _ h => h))
set_option maxRecDepth 100000 in
theorem F_Mo_44 {args : Array Value} {s : State} (hts : ∀ w ∈ lwG, w.before args s = true) : ∀ ci ∈ [8], Fk vwCl args s lwG "SerialPlantModel" 44 13 ci := fk1 (fk_mk "SerialPlantModel" TMo 41 "SerialPlantModel" rfl (Nat.le_of_ble_eq_true rfl) inMo (hts _ (lw_t 615 rfl rfl)) (fun _ h => h))
set_option maxRecDepth 100000 in
theorem F_Mo_47 {args : Array Value} {s : State} (hts : ∀ w ∈ lwG, w.before args s = true) : ∀ ci ∈ [8], Fk vwCl args s lwG "SerialPlantModel" 47 14 ci := fk1 (fk_mk "SerialPlantModel" TMo 41 "SerialPlantModel" rfl (Nat.le_of_ble_eq_true rfl) inMo (hts _ (lw_t 616 rfl rfl)) (fun _ h => h))
set_option maxRecDepth 100000 in
theorem F_Mo_50 {args : Array Value} {s : State} (hts : ∀ w ∈ lwG, w.before args s = true) : ∀ ci ∈ [8], Fk vwCl args s lwG "SerialPlantModel" 50 15 ci := fk1 (fk_mk "SerialPlantModel" TMo 41 "SerialPlantModel" rfl (Nat.le_of_ble_eq_true rfl) inMo (hts _ (lw_t 617 rfl rfl)) (fun _ h => h))
set_option maxRecDepth 100000 in
theorem F_Mo_54 {args : Array Value} {s : State} (hts : ∀ w ∈ lwG, w.before args s = true) : ∀ ci ∈ [8], Fk vwCl args s lwG "SerialPlantModel" 54 16 ci := fk1 (fk_mk "SerialPlantModel" TMo 41 "SerialPlantModel" rfl (Nat.le_of_ble_eq_true rfl) inMo (hts _ (lw_t 618 rfl rfl)) (fun _ h => h))
set_option maxRecDepth 100000 in
theorem F_Mo_57 {args : Array Value} {s : State} (hts : ∀ w ∈ lwG, w.before args s = true) : ∀ ci ∈ [8], Fk vwCl args s lwG "SerialPlantModel" 57 17 ci := fk1 (fk_mk "SerialPlantModel" TMo 41 "SerialPlantModel" rfl (Nat.le_of_ble_eq_true rfl) inMo (hts _ (lw_t 619 rfl rfl)) (fun _ h => h))
set_option maxRecDepth 100000 in
theorem F_Mo_60 {args : Array Value} {s : State} (hts : ∀ w ∈ lwG, w.before args s = true) : ∀ ci ∈ [8], Fk vwCl args s lwG "SerialPlantModel" 60 18 ci := fk1 (fk_mk "SerialPlantModel" TMo 41 "SerialPlantModel" rfl (Nat.le_of_ble_eq_true rfl) inMo (hts _ (lw_t 620 rfl rfl)) (fun _ h => h))
set_option maxRecDepth 100000 in
theorem F_Mo_63 {args : Array Value} {s : State} (hts : ∀ w ∈ lwG, w.before args s = true) : ∀ ci ∈ [8], Fk vwCl args s lwG "SerialPlantModel" 63 20 ci := fk1 (fk_mk "SerialPlantModel" TMo 41 "SerialPlantModel" rfl (Nat.le_of_ble_eq_true rfl) inMo (hts _ (lw_t 622 rfl rfl)) (fun _ h => h))
set_option maxRecDepth 100000 in
theorem F_Mo_66 {args : Array Value} {s : State} (hts : ∀ w ∈ lwG, w.before args s = true) : ∀ ci ∈ [8], Fk vwCl args s lwG "SerialPlantModel" 66 21 ci := fk1 (fk_mk "SerialPlantModel" TMo 41 "SerialPlantModel" rfl (Nat.le_of_ble_eq_true rfl) inMo (hts _ (lw_t 623 rfl rfl)) (fun _ h => h))
set_option maxRecDepth 100000 in
theorem F_Mo_69 {args : Array Value} {s : State} (hts : ∀ w ∈ lwG, w.before args s = true) : ∀ ci ∈ [8], Fk vwCl args s lwG "SerialPlantModel" 69 22 ci := fk1 (fk_mk "SerialPlantModel" TMo 41 "SerialPlantModel" rfl (Nat.le_of_ble_eq_true rfl) inMo (hts _ (lw_t 624 rfl rfl)) (fun _ h => h))
set_option maxRecDepth 100000 in
theorem F_Mo_72 {args : Array Value} {s : State} (hts : ∀ w ∈ lwG, w.before args s = true) : ∀ ci ∈ [8], Fk vwCl args s lwG "SerialPlantModel" 72 23 ci := fk1 (fk_mk "SerialPlantModel" TMo 41 "SerialPlantModel" rfl (Nat.le_of_ble_eq_true rfl) inMo (hts _ (lw_t 625 rfl rfl)) (fun _ h => h))
set_option maxRecDepth 100000 in
theorem F_Mo_75 {args : Array Value} {s : State} (hts : ∀ w ∈ lwG, w.before args s = true) : ∀ ci ∈ [8], Fk vwCl args s lwG "SerialPlantModel" 75 24 ci := fk1 (fk_mk "SerialPlantModel" TMo 41 "SerialPlantModel" rfl (Nat.le_of_ble_eq_true rfl) inMo (hts _ (lw_t 626 rfl rfl)) (fun _ h => h))
set_option maxRecDepth 100000 in
theorem F_Mo_78 {args : Array Value} {s : State} (hts : ∀ w ∈ lwG, w.before args s = true) : ∀ ci ∈ [8], Fk vwCl args s lwG "SerialPlantModel" 78 26 ci := fk1 (fk_mk "SerialPlantModel" TMo 41 "SerialPlantModel" rfl (Nat.le_of_ble_eq_true rfl) inMo (hts _ (lw_t 628 rfl rfl)) (fun _ h => h))
set_option maxRecDepth 100000 in
theorem F_Mo_81 {args : Array Value} {s : State} (hts : ∀ w ∈ lwG, w.before args s = true) : ∀ ci ∈ [8], Fk vwCl args s lwG "SerialPlantModel" 81 27 ci := fk1 (fk_mk "SerialPlantModel" TMo 41 "SerialPlantModel" rfl (Nat.le_of_ble_eq_true rfl) inMo (hts _ (lw_t 629 rfl rfl)) (fun _ h => h))
set_option maxRecDepth 100000 in
theorem F_Mo_84 {args : Array Value} {s : State} (hts : ∀ w ∈ lwG, w.before args s = true) : ∀ ci ∈ [8], Fk vwCl args s lwG "SerialPlantModel" 84 28 ci := fk1 (fk_mk "SerialPlantModel" TMo 41 "SerialPlantModel" rfl (Nat.le_of_ble_eq_true rfl) inMo (hts _ (lw_t 630 rfl rfl)) (fun _ h => h))
set_option maxRecDepth 100000 in
theorem F_Mo_87 {args : Array Value} {s : State} (hts : ∀ w ∈ lwG, w.before args s = true) : ∀ ci ∈ [8], Fk vwCl args s lwG "SerialPlantModel" 87 29 ci := fk1 (fk_mk "SerialPlantModel" TMo 41 "SerialPlantModel" rfl (Nat.le_of_ble_eq_true rfl) inMo (hts _ (lw_t 631 rfl rfl)) (fun _ h => h))
set_option maxRecDepth 100000 in
theorem F_Mo_90 {args : Array Value} {s : State} (hts : ∀ w ∈ lwG, w.before args s = true) : ∀ ci ∈ [8], Fk vwCl args s lwG "SerialPlantModel" 90 30 ci := fk1 (fk_mk "SerialPlantModel" TMo 41 "SerialPlantModel" rfl (Nat.le_of_ble_eq_true rfl) inMo (hts _ (lw_t 632 rfl rfl)) (fun _ h => h))
set_option maxRecDepth 100000 in
theorem F_Mo_93 {args : Array Value} {s : State} (hts : ∀ w ∈ lwG, w.before args s = true) : ∀ ci ∈ [8], Fk vwCl args s lwG "SerialPlantModel" 93 31 ci := fk1 (fk_mk "SerialPlantModel" TMo 41 "SerialPlantModel" rfl (Nat.le_of_ble_eq_true rfl) inMo (hts _ (lw_t 633 rfl rfl)) (fun _ h => h))
set_option maxRecDepth 100000 in
theorem F_Mo_96 {args : Array Value} {s : State} (hts : ∀ w ∈ lwG, w.before args s = true) : ∀ ci ∈ [8], Fk vwCl args s lwG "SerialPlantModel" 96 32 ci := fk1 (fk_mk "SerialPlantModel" TMo 41 "SerialPlantModel" rfl (Nat.le_of_ble_eq_true rfl) inMo (hts _ (lw_t 634 rfl rfl)) (fun _ h => h))
set_option maxRecDepth 100000 in
theorem F_Mo_99 {args : Array Value} {s : State} (hts : ∀ w ∈ lwG, w.before args s = true) : ∀ ci ∈ [8], Fk vwCl args s lwG "SerialPlantModel" 99 33 ci := fk1 (fk_mk "SerialPlantModel" TMo 41 "SerialPlantModel" rfl (Nat.le_of_ble_eq_true rfl) inMo (hts _ (lw_t 635 rfl rfl)) (fun _ h => h))
set_option maxRecDepth 100000 in
theorem F_Mo_102 {args : Array Value} {s : State} (hts : ∀ w ∈ lwG, w.before args s = true) : ∀ ci ∈ [8], Fk vwCl args s lwG "SerialPlantModel" 102 34 ci := fk1 (fk_mk "SerialPlantModel" TMo 41 "SerialPlantModel" rfl (Nat.le_of_ble_eq_true rfl) inMo (hts _ (lw_t 636 rfl rfl)) (fun _ h => h))
set_option maxRecDepth 100000 in
theorem F_Mo_105 {args : Array Value} {s : State} (hts : ∀ w ∈ lwG, w.before args s = true) : ∀ ci ∈ [8], Fk vwCl args s lwG "SerialPlantModel" 105 35 ci := fk1 (fk_mk "SerialPlantModel" TMo 41 "SerialPlantModel" rfl (Nat.le_of_ble_eq_true rfl) inMo (hts _ (lw_t 637 rfl rfl)) (fun _ h => h))
set_option maxRecDepth 100000 in
theorem F_Mo_108 {args : Array Value} {s : State} (hts : ∀ w ∈ lwG, w.before args s = true) : ∀ ci ∈ [8], Fk vwCl args s lwG "SerialPlantModel" 108 36 ci := fk1 (fk_mk "SerialPlantModel" TMo 41 "SerialPlantModel" rfl (Nat.le_of_ble_eq_true rfl) inMo (hts _ (lw_t 638 rfl rfl)) (fun _ h => h))
set_option maxRecDepth 100000 in
theorem F_Mo_111 {args : Array Value} {s : State} (hts : ∀ w ∈ lwG, w.before args s = true) : ∀ ci ∈ [8], Fk vwCl args s lwG "SerialPlantModel" 111 37 ci := fk1 (fk_mk "SerialPlantModel" TMo 41 "SerialPlantModel" rfl (Nat.le_of_ble_eq_true rfl) inMo (hts _ (lw_t 639 rfl rfl)) (fun _ h => h))
set_option maxRecDepth 100000 in
theorem F_Mo_114 {args : Array Value} {s : State} (hts : ∀ w ∈ lwG, w.before args s = true) : ∀ ci ∈ [8], Fk vwCl args s lwG "SerialPlantModel" 114 38 ci := fk1 (fk_mk "SerialPlantModel" TMo 41 "SerialPlantModel" rfl (Nat.le_of_ble_eq_true rfl) inMo (hts _ (lw_t 640 rfl rfl)) (fun _ h => h))
set_option maxRecDepth 100000 in
theorem F_Mo_125 {args : Array Value} {s : State} (hts : ∀ w ∈ lwG, w.before args s = true) : ∀ ci ∈ [8], Fk vwCl args s lwG "SerialPlantModel" 125 19 ci := fk1 (fk_mk "SerialPlantModel" TMo 41 "SerialPlantModel" rfl (Nat.le_of_ble_eq_true rfl) inMo (hts _ (lw_t 621 rfl rfl)) (fun _ h => h))
set_option maxRecDepth 100000 in
theorem F_Mo_129 {args : Array Value} {s : State} (hts : ∀ w ∈ lwG, w.before args s = true) : ∀ ci ∈ [8], Fk vwCl args s lwG "SerialPlantModel" 129 10 ci := fk1 (fk_mk "SerialPlantModel" TMo 41 "SerialPlantModel" rfl (Nat.le_of_ble_eq_true rfl) inMo (hts _ (lw_t 612 rfl rfl)) (fun _ h => h))
set_option maxRecDepth 100000 in
theorem F_Mo_164 {args : Array Value} {s : State} (hts : ∀ w ∈ lwG, w.before args s = true) : ∀ ci ∈ [8], Fk vwCl args s lwG "SerialPlantModel" 164 39 ci := fk1 (fk_mk "SerialPlantModel" TMo 41 "SerialPlantModel" rfl (Nat.le_of_ble_eq_true rfl) inMo (hts _ (lw_t 641 rfl rfl)) (fun _ h => h))
set_option maxRecDepth 100000 in
theorem F_Mo_167 {args : Array Value} {s : State} (hts : ∀ w ∈ lwG, w.before args s = true) : ∀ ci ∈ [8], Fk vwCl args s lwG "SerialPlantModel" 167 40 ci := fk1 (fk_mk "SerialPlantModel" TMo 41 "SerialPlantModel" rfl (Nat.le_of_ble_eq_true rfl) inMo (hts _ (lw_t 642 rfl rfl)) (fun _ h => h))
set_option maxRecDepth 100000 in
theorem F_Mo_210 {args : Array Value} {s : State} (hts : ∀ w ∈ lwG, w.before args s = true) : ∀ ci ∈ [8], Fk vwCl args s lwG "SerialPlantModel" 210 25 ci := fk1 (fk_mk "SerialPlantModel" TMo 41 "SerialPlantModel" rfl (Nat.le_of_ble_eq_true rfl) inMo (hts _ (lw_t 627 rfl rfl)) (fun _ h => h))
set_option maxRecDepth 100000 in
theorem F_Mo_191 {args : Array Value} {s : State} (hts : ∀ w ∈ lwG, w.before args s = true) : ∀ ci ∈ [8], Fk vwCl args s lwG "SerialPlantModel" 191 0 ci := fk1 (fk_mk "SerialPlantModel" TMo 41 "SerialPlantModel" rfl (Nat.le_of_ble_eq_true rfl) inMo (hts _ (lw_t 602 rfl rfl)) (fun _ h => h))
theorem P_Sl_Sl_1 {meth : Method} (hn : meth.name = "<init>") : ∀ ci ∈ [5], Fp vwCl meth "SerialPlant$Slave" 1 (.array .int) ci := fk1 (fp_mk "SerialPlant$Slave" TSl 9 tySl rfl tySl_ok nmSl (tySl_ok 1 (by decide)) (Or.inr ⟨rfl, hn, rfl⟩))
theorem P_Sl_Sl_2 {meth : Method} (hn : meth.name = "<init>") : ∀ ci ∈ [5], Fp vwCl meth "SerialPlant$Slave" 2 (.array .int) ci := fk1 (fp_mk "SerialPlant$Slave" TSl 9 tySl rfl tySl_ok nmSl (tySl_ok 2 (by decide)) (Or.inr ⟨rfl, hn, rfl⟩))
theorem P_Sl_Sl_3 {meth : Method} (hn : meth.name = "<init>") : ∀ ci ∈ [5], Fp vwCl meth "SerialPlant$Slave" 3 (.array .int) ci := fk1 (fp_mk "SerialPlant$Slave" TSl 9 tySl rfl tySl_ok nmSl (tySl_ok 3 (by decide)) (Or.inr ⟨rfl, hn, rfl⟩))
theorem P_Sl_Sl_4 {meth : Method} (hn : meth.name = "<init>") : ∀ ci ∈ [5], Fp vwCl meth "SerialPlant$Slave" 4 (.array .int) ci := fk1 (fp_mk "SerialPlant$Slave" TSl 9 tySl rfl tySl_ok nmSl (tySl_ok 4 (by decide)) (Or.inr ⟨rfl, hn, rfl⟩))
theorem P_Sl_Sl_5 {meth : Method} : ∀ ci ∈ [5], Fp vwCl meth "SerialPlant$Slave" 5 (.int) ci := fk1 (fp_mk "SerialPlant$Slave" TSl 9 tySl rfl tySl_ok nmSl (tySl_ok 5 (by decide)) (Or.inl rfl))
theorem P_Sl_Sl_7 {meth : Method} : ∀ ci ∈ [5], Fp vwCl meth "SerialPlant$Slave" 7 (.boolean) ci := fk1 (fp_mk "SerialPlant$Slave" TSl 9 tySl rfl tySl_ok nmSl (tySl_ok 7 (by decide)) (Or.inl rfl))
theorem P_Sl_Sl_0 {meth : Method} (hn : meth.name = "<init>") : ∀ ci ∈ [5], Fp vwCl meth "SerialPlant$Slave" 0 (.int) ci := fk1 (fp_mk "SerialPlant$Slave" TSl 9 tySl rfl tySl_ok nmSl (tySl_ok 0 (by decide)) (Or.inr ⟨rfl, hn, rfl⟩))
theorem P_Fr_Fr_0 {meth : Method} (hn : meth.name = "<init>") : ∀ ci ∈ [0], Fp vwCl meth "SerialPlant$Frame" 0 (.array .int) ci := fk1 (fp_mk "SerialPlant$Frame" TFr 2 tyFr rfl tyFr_ok nmFr (tyFr_ok 0 (by decide)) (Or.inr ⟨rfl, hn, rfl⟩))
theorem P_Wa_Wa_0 {meth : Method} (hn : meth.name = "<init>") : ∀ ci ∈ [6], Fp vwCl meth "SerialPlant$Way" 0 (.object "SerialPlant$Frame") ci := fk1 (fp_mk "SerialPlant$Way" TWa 2 tyWa rfl tyWa_ok nmWa (tyWa_ok 0 (by decide)) (Or.inr ⟨rfl, hn, rfl⟩))
theorem P_Li_Li_1 {meth : Method} (hn : meth.name = "<init>") : ∀ ci ∈ [2], Fp vwCl meth "SerialPlant$Line" 1 (.object "SerialPlant$Way") ci := fk1 (fp_mk "SerialPlant$Line" TLi 9 tyLi rfl tyLi_ok nmLi (tyLi_ok 1 (by decide)) (Or.inr ⟨rfl, hn, rfl⟩))
theorem P_Li_Li_2 {meth : Method} (hn : meth.name = "<init>") : ∀ ci ∈ [2], Fp vwCl meth "SerialPlant$Line" 2 (.object "SerialPlant$Way") ci := fk1 (fp_mk "SerialPlant$Line" TLi 9 tyLi rfl tyLi_ok nmLi (tyLi_ok 2 (by decide)) (Or.inr ⟨rfl, hn, rfl⟩))
theorem P_Li_Li_3 {meth : Method} (hn : meth.name = "<init>") : ∀ ci ∈ [2], Fp vwCl meth "SerialPlant$Line" 3 (.array (.object "SerialPlant$Job")) ci := fk1 (fp_mk "SerialPlant$Line" TLi 9 tyLi rfl tyLi_ok nmLi (tyLi_ok 3 (by decide)) (Or.inr ⟨rfl, hn, rfl⟩))
theorem P_Li_Li_8 {meth : Method} : ∀ ci ∈ [2], Fp vwCl meth "SerialPlant$Line" 8 (.int) ci := fk1 (fp_mk "SerialPlant$Line" TLi 9 tyLi rfl tyLi_ok nmLi (tyLi_ok 8 (by decide)) (Or.inl rfl))
theorem P_Li_Li_0 {meth : Method} (hn : meth.name = "<init>") : ∀ ci ∈ [2], Fp vwCl meth "SerialPlant$Line" 0 (.int) ci := fk1 (fp_mk "SerialPlant$Line" TLi 9 tyLi rfl tyLi_ok nmLi (tyLi_ok 0 (by decide)) (Or.inr ⟨rfl, hn, rfl⟩))
theorem P_Hi_Hi_0 {meth : Method} (hn : meth.name = "<init>") : ∀ ci ∈ [1], Fp vwCl meth "SerialPlant$History" 0 (.array .int) ci := fk1 (fp_mk "SerialPlant$History" THi 6 tyHi rfl tyHi_ok nmHi (tyHi_ok 0 (by decide)) (Or.inr ⟨rfl, hn, rfl⟩))
theorem P_Hi_Hi_1 {meth : Method} (hn : meth.name = "<init>") : ∀ ci ∈ [1], Fp vwCl meth "SerialPlant$History" 1 (.array .int) ci := fk1 (fp_mk "SerialPlant$History" THi 6 tyHi rfl tyHi_ok nmHi (tyHi_ok 1 (by decide)) (Or.inr ⟨rfl, hn, rfl⟩))
theorem P_Hi_Hi_2 {meth : Method} (hn : meth.name = "<init>") : ∀ ci ∈ [1], Fp vwCl meth "SerialPlant$History" 2 (.array .int) ci := fk1 (fp_mk "SerialPlant$History" THi 6 tyHi rfl tyHi_ok nmHi (tyHi_ok 2 (by decide)) (Or.inr ⟨rfl, hn, rfl⟩))
theorem P_Hi_Hi_3 {meth : Method} (hn : meth.name = "<init>") : ∀ ci ∈ [1], Fp vwCl meth "SerialPlant$History" 3 (.array .int) ci := fk1 (fp_mk "SerialPlant$History" THi 6 tyHi rfl tyHi_ok nmHi (tyHi_ok 3 (by decide)) (Or.inr ⟨rfl, hn, rfl⟩))
theorem P_Pl_Pl_0 {meth : Method} (hn : meth.name = "<init>") : ∀ ci ∈ [7], Fp vwCl meth "SerialPlant" 0 (.array (.object "SerialPlant$Slave")) ci := fk1 (fp_mk "SerialPlant" TPl 8 tyPl rfl tyPl_ok nmPl (tyPl_ok 0 (by decide)) (Or.inr ⟨rfl, hn, rfl⟩))
theorem P_Pl_Pl_1 {meth : Method} (hn : meth.name = "<init>") : ∀ ci ∈ [7], Fp vwCl meth "SerialPlant" 1 (.array (.object "SerialPlant$Line")) ci := fk1 (fp_mk "SerialPlant" TPl 8 tyPl rfl tyPl_ok nmPl (tyPl_ok 1 (by decide)) (Or.inr ⟨rfl, hn, rfl⟩))
theorem P_Pl_Pl_2 {meth : Method} (hn : meth.name = "<init>") : ∀ ci ∈ [7], Fp vwCl meth "SerialPlant" 2 (.array (.object "SerialPlant$Request")) ci := fk1 (fp_mk "SerialPlant" TPl 8 tyPl rfl tyPl_ok nmPl (tyPl_ok 2 (by decide)) (Or.inr ⟨rfl, hn, rfl⟩))
theorem P_Pl_Pl_3 {meth : Method} (hn : meth.name = "<init>") : ∀ ci ∈ [7], Fp vwCl meth "SerialPlant" 3 (.array (.object "SerialPlant$Poll")) ci := fk1 (fp_mk "SerialPlant" TPl 8 tyPl rfl tyPl_ok nmPl (tyPl_ok 3 (by decide)) (Or.inr ⟨rfl, hn, rfl⟩))
theorem P_Pl_Pl_4 {meth : Method} (hn : meth.name = "<init>") : ∀ ci ∈ [7], Fp vwCl meth "SerialPlant" 4 (.object "SerialPlant$History") ci := fk1 (fp_mk "SerialPlant" TPl 8 tyPl rfl tyPl_ok nmPl (tyPl_ok 4 (by decide)) (Or.inr ⟨rfl, hn, rfl⟩))
theorem P_Pl_Sl_5 {meth : Method} : ∀ ci ∈ [5], Fp vwCl meth "SerialPlant" 5 (.int) ci := fk1 (fp_mk "SerialPlant$Slave" TSl 9 tySl rfl tySl_ok nmSl (tySl_ok 5 (by decide)) (Or.inl rfl))
theorem P_Pl_Sl_6 {meth : Method} : ∀ ci ∈ [5], Fp vwCl meth "SerialPlant" 6 (.int) ci := fk1 (fp_mk "SerialPlant$Slave" TSl 9 tySl rfl tySl_ok nmSl (tySl_ok 6 (by decide)) (Or.inl rfl))
theorem P_Pl_Sl_7 {meth : Method} : ∀ ci ∈ [5], Fp vwCl meth "SerialPlant" 7 (.boolean) ci := fk1 (fp_mk "SerialPlant$Slave" TSl 9 tySl rfl tySl_ok nmSl (tySl_ok 7 (by decide)) (Or.inl rfl))
theorem P_Jo_Po_Re_0 {meth : Method} (hn : meth.name = "<init>") : ∀ ci ∈ [3, 4], Fp vwCl meth "SerialPlant$Job" 0 (.int) ci := fk2 (fp_mk "SerialPlant$Poll" TPo 8 tyPo rfl tyPo_ok nmPo (tyPo_ok 0 (by decide)) (Or.inr ⟨rfl, hn, rfl⟩)) (fp_mk "SerialPlant$Request" TRe 9 tyRe rfl tyRe_ok nmRe (tyRe_ok 0 (by decide)) (Or.inr ⟨rfl, hn, rfl⟩))
theorem P_Jo_Po_Re_1 {meth : Method} (hn : meth.name = "<init>") : ∀ ci ∈ [3, 4], Fp vwCl meth "SerialPlant$Job" 1 (.int) ci := fk2 (fp_mk "SerialPlant$Poll" TPo 8 tyPo rfl tyPo_ok nmPo (tyPo_ok 1 (by decide)) (Or.inr ⟨rfl, hn, rfl⟩)) (fp_mk "SerialPlant$Request" TRe 9 tyRe rfl tyRe_ok nmRe (tyRe_ok 1 (by decide)) (Or.inr ⟨rfl, hn, rfl⟩))
theorem P_Jo_Po_Re_2 {meth : Method} (hn : meth.name = "<init>") : ∀ ci ∈ [3, 4], Fp vwCl meth "SerialPlant$Job" 2 (.int) ci := fk2 (fp_mk "SerialPlant$Poll" TPo 8 tyPo rfl tyPo_ok nmPo (tyPo_ok 2 (by decide)) (Or.inr ⟨rfl, hn, rfl⟩)) (fp_mk "SerialPlant$Request" TRe 9 tyRe rfl tyRe_ok nmRe (tyRe_ok 2 (by decide)) (Or.inr ⟨rfl, hn, rfl⟩))
theorem P_Jo_Po_Re_3 {meth : Method} (hn : meth.name = "<init>") : ∀ ci ∈ [3, 4], Fp vwCl meth "SerialPlant$Job" 3 (.int) ci := fk2 (fp_mk "SerialPlant$Poll" TPo 8 tyPo rfl tyPo_ok nmPo (tyPo_ok 3 (by decide)) (Or.inr ⟨rfl, hn, rfl⟩)) (fp_mk "SerialPlant$Request" TRe 9 tyRe rfl tyRe_ok nmRe (tyRe_ok 3 (by decide)) (Or.inr ⟨rfl, hn, rfl⟩))
theorem P_Jo_Po_Re_4 {meth : Method} (hn : meth.name = "<init>") : ∀ ci ∈ [3, 4], Fp vwCl meth "SerialPlant$Job" 4 (.int) ci := fk2 (fp_mk "SerialPlant$Poll" TPo 8 tyPo rfl tyPo_ok nmPo (tyPo_ok 4 (by decide)) (Or.inr ⟨rfl, hn, rfl⟩)) (fp_mk "SerialPlant$Request" TRe 9 tyRe rfl tyRe_ok nmRe (tyRe_ok 4 (by decide)) (Or.inr ⟨rfl, hn, rfl⟩))
theorem P_Jo_Po_Re_5 {meth : Method} (hn : meth.name = "<init>") : ∀ ci ∈ [3, 4], Fp vwCl meth "SerialPlant$Job" 5 (.long) ci := fk2 (fp_mk "SerialPlant$Poll" TPo 8 tyPo rfl tyPo_ok nmPo (tyPo_ok 5 (by decide)) (Or.inr ⟨rfl, hn, rfl⟩)) (fp_mk "SerialPlant$Request" TRe 9 tyRe rfl tyRe_ok nmRe (tyRe_ok 5 (by decide)) (Or.inr ⟨rfl, hn, rfl⟩))
theorem P_Po_Po_6 {meth : Method} (hn : meth.name = "<init>") : ∀ ci ∈ [3], Fp vwCl meth "SerialPlant$Poll" 6 (.int) ci := fk1 (fp_mk "SerialPlant$Poll" TPo 8 tyPo rfl tyPo_ok nmPo (tyPo_ok 6 (by decide)) (Or.inr ⟨rfl, hn, rfl⟩))
theorem P_Po_Po_7 {meth : Method} (hn : meth.name = "<init>") : ∀ ci ∈ [3], Fp vwCl meth "SerialPlant$Poll" 7 (.object "SerialPlant$History") ci := fk1 (fp_mk "SerialPlant$Poll" TPo 8 tyPo rfl tyPo_ok nmPo (tyPo_ok 7 (by decide)) (Or.inr ⟨rfl, hn, rfl⟩))
theorem P_Pl_Pl_6 {meth : Method} : ∀ ci ∈ [7], Fp vwCl meth "SerialPlant" 6 (.int) ci := fk1 (fp_mk "SerialPlant" TPl 8 tyPl rfl tyPl_ok nmPl (tyPl_ok 6 (by decide)) (Or.inl rfl))
theorem P_Re_Re_6 {meth : Method} : ∀ ci ∈ [4], Fp vwCl meth "SerialPlant$Request" 6 (.int) ci := fk1 (fp_mk "SerialPlant$Request" TRe 9 tyRe rfl tyRe_ok nmRe (tyRe_ok 6 (by decide)) (Or.inl rfl))
theorem P_Li_Li_4 {meth : Method} : ∀ ci ∈ [2], Fp vwCl meth "SerialPlant$Line" 4 (.int) ci := fk1 (fp_mk "SerialPlant$Line" TLi 9 tyLi rfl tyLi_ok nmLi (tyLi_ok 4 (by decide)) (Or.inl rfl))
theorem P_Re_Re_7 {meth : Method} : ∀ ci ∈ [4], Fp vwCl meth "SerialPlant$Request" 7 (.int) ci := fk1 (fp_mk "SerialPlant$Request" TRe 9 tyRe rfl tyRe_ok nmRe (tyRe_ok 7 (by decide)) (Or.inl rfl))
theorem P_Pl_Re_6 {meth : Method} : ∀ ci ∈ [4], Fp vwCl meth "SerialPlant" 6 (.int) ci := fk1 (fp_mk "SerialPlant$Request" TRe 9 tyRe rfl tyRe_ok nmRe (tyRe_ok 6 (by decide)) (Or.inl rfl))
theorem P_Pl_Pl_5 {meth : Method} : ∀ ci ∈ [7], Fp vwCl meth "SerialPlant" 5 (.int) ci := fk1 (fp_mk "SerialPlant" TPl 8 tyPl rfl tyPl_ok nmPl (tyPl_ok 5 (by decide)) (Or.inl rfl))
theorem P_Wa_Wa_1 {meth : Method} : ∀ ci ∈ [6], Fp vwCl meth "SerialPlant$Way" 1 (.boolean) ci := fk1 (fp_mk "SerialPlant$Way" TWa 2 tyWa rfl tyWa_ok nmWa (tyWa_ok 1 (by decide)) (Or.inl rfl))
theorem P_Li_Li_5 {meth : Method} : ∀ ci ∈ [2], Fp vwCl meth "SerialPlant$Line" 5 (.object "SerialPlant$Job") ci := fk1 (fp_mk "SerialPlant$Line" TLi 9 tyLi rfl tyLi_ok nmLi (tyLi_ok 5 (by decide)) (Or.inl rfl))
theorem P_Li_Li_6 {meth : Method} : ∀ ci ∈ [2], Fp vwCl meth "SerialPlant$Line" 6 (.int) ci := fk1 (fp_mk "SerialPlant$Line" TLi 9 tyLi rfl tyLi_ok nmLi (tyLi_ok 6 (by decide)) (Or.inl rfl))
theorem P_Hi_Hi_4 {meth : Method} : ∀ ci ∈ [1], Fp vwCl meth "SerialPlant$History" 4 (.int) ci := fk1 (fp_mk "SerialPlant$History" THi 6 tyHi rfl tyHi_ok nmHi (tyHi_ok 4 (by decide)) (Or.inl rfl))
theorem P_Hi_Hi_5 {meth : Method} : ∀ ci ∈ [1], Fp vwCl meth "SerialPlant$History" 5 (.int) ci := fk1 (fp_mk "SerialPlant$History" THi 6 tyHi rfl tyHi_ok nmHi (tyHi_ok 5 (by decide)) (Or.inl rfl))
theorem P_Re_Re_8 {meth : Method} : ∀ ci ∈ [4], Fp vwCl meth "SerialPlant$Request" 8 (.long) ci := fk1 (fp_mk "SerialPlant$Request" TRe 9 tyRe rfl tyRe_ok nmRe (tyRe_ok 8 (by decide)) (Or.inl rfl))
theorem P_Li_Li_7 {meth : Method} : ∀ ci ∈ [2], Fp vwCl meth "SerialPlant$Line" 7 (.int) ci := fk1 (fp_mk "SerialPlant$Line" TLi 9 tyLi rfl tyLi_ok nmLi (tyLi_ok 7 (by decide)) (Or.inl rfl))
theorem P_Fr_Fr_1 {meth : Method} : ∀ ci ∈ [0], Fp vwCl meth "SerialPlant$Frame" 1 (.int) ci := fk1 (fp_mk "SerialPlant$Frame" TFr 2 tyFr rfl tyFr_ok nmFr (tyFr_ok 1 (by decide)) (Or.inl rfl))
theorem P_Sl_Sl_8 {meth : Method} : ∀ ci ∈ [5], Fp vwCl meth "SerialPlant$Slave" 8 (.boolean) ci := fk1 (fp_mk "SerialPlant$Slave" TSl 9 tySl rfl tySl_ok nmSl (tySl_ok 8 (by decide)) (Or.inl rfl))
theorem P_Pl_Li_8 {meth : Method} : ∀ ci ∈ [2], Fp vwCl meth "SerialPlant" 8 (.int) ci := fk1 (fp_mk "SerialPlant$Line" TLi 9 tyLi rfl tyLi_ok nmLi (tyLi_ok 8 (by decide)) (Or.inl rfl))
theorem P_Pl_Pl_7 {meth : Method} : ∀ ci ∈ [7], Fp vwCl meth "SerialPlant" 7 (.int) ci := fk1 (fp_mk "SerialPlant" TPl 8 tyPl rfl tyPl_ok nmPl (tyPl_ok 7 (by decide)) (Or.inl rfl))
theorem P_Mo_Mo_1 {meth : Method} (hn : meth.name = "<init>") : ∀ ci ∈ [8], Fp vwCl meth "SerialPlantModel" 1 (.array .boolean) ci := fk1 (fp_mk "SerialPlantModel" TMo 41 tyMo rfl tyMo_ok nmMo (tyMo_ok 1 (by decide)) (Or.inr ⟨rfl, hn, rfl⟩))
theorem P_Mo_Mo_2 {meth : Method} (hn : meth.name = "<init>") : ∀ ci ∈ [8], Fp vwCl meth "SerialPlantModel" 2 (.array .int) ci := fk1 (fp_mk "SerialPlantModel" TMo 41 tyMo rfl tyMo_ok nmMo (tyMo_ok 2 (by decide)) (Or.inr ⟨rfl, hn, rfl⟩))
theorem P_Mo_Mo_3 {meth : Method} (hn : meth.name = "<init>") : ∀ ci ∈ [8], Fp vwCl meth "SerialPlantModel" 3 (.array .int) ci := fk1 (fp_mk "SerialPlantModel" TMo 41 tyMo rfl tyMo_ok nmMo (tyMo_ok 3 (by decide)) (Or.inr ⟨rfl, hn, rfl⟩))
theorem P_Mo_Mo_4 {meth : Method} (hn : meth.name = "<init>") : ∀ ci ∈ [8], Fp vwCl meth "SerialPlantModel" 4 (.array .boolean) ci := fk1 (fp_mk "SerialPlantModel" TMo 41 tyMo rfl tyMo_ok nmMo (tyMo_ok 4 (by decide)) (Or.inr ⟨rfl, hn, rfl⟩))
theorem P_Mo_Mo_5 {meth : Method} (hn : meth.name = "<init>") : ∀ ci ∈ [8], Fp vwCl meth "SerialPlantModel" 5 (.array .boolean) ci := fk1 (fp_mk "SerialPlantModel" TMo 41 tyMo rfl tyMo_ok nmMo (tyMo_ok 5 (by decide)) (Or.inr ⟨rfl, hn, rfl⟩))
theorem P_Mo_Mo_6 {meth : Method} (hn : meth.name = "<init>") : ∀ ci ∈ [8], Fp vwCl meth "SerialPlantModel" 6 (.array .int) ci := fk1 (fp_mk "SerialPlantModel" TMo 41 tyMo rfl tyMo_ok nmMo (tyMo_ok 6 (by decide)) (Or.inr ⟨rfl, hn, rfl⟩))
theorem P_Mo_Mo_7 {meth : Method} (hn : meth.name = "<init>") : ∀ ci ∈ [8], Fp vwCl meth "SerialPlantModel" 7 (.array .int) ci := fk1 (fp_mk "SerialPlantModel" TMo 41 tyMo rfl tyMo_ok nmMo (tyMo_ok 7 (by decide)) (Or.inr ⟨rfl, hn, rfl⟩))
theorem P_Mo_Mo_8 {meth : Method} (hn : meth.name = "<init>") : ∀ ci ∈ [8], Fp vwCl meth "SerialPlantModel" 8 (.array .int) ci := fk1 (fp_mk "SerialPlantModel" TMo 41 tyMo rfl tyMo_ok nmMo (tyMo_ok 8 (by decide)) (Or.inr ⟨rfl, hn, rfl⟩))
theorem P_Mo_Mo_9 {meth : Method} (hn : meth.name = "<init>") : ∀ ci ∈ [8], Fp vwCl meth "SerialPlantModel" 9 (.array .int) ci := fk1 (fp_mk "SerialPlantModel" TMo 41 tyMo rfl tyMo_ok nmMo (tyMo_ok 9 (by decide)) (Or.inr ⟨rfl, hn, rfl⟩))
theorem P_Mo_Mo_11 {meth : Method} (hn : meth.name = "<init>") : ∀ ci ∈ [8], Fp vwCl meth "SerialPlantModel" 11 (.array .int) ci := fk1 (fp_mk "SerialPlantModel" TMo 41 tyMo rfl tyMo_ok nmMo (tyMo_ok 11 (by decide)) (Or.inr ⟨rfl, hn, rfl⟩))
theorem P_Mo_Mo_12 {meth : Method} (hn : meth.name = "<init>") : ∀ ci ∈ [8], Fp vwCl meth "SerialPlantModel" 12 (.array .int) ci := fk1 (fp_mk "SerialPlantModel" TMo 41 tyMo rfl tyMo_ok nmMo (tyMo_ok 12 (by decide)) (Or.inr ⟨rfl, hn, rfl⟩))
theorem P_Mo_Mo_13 {meth : Method} (hn : meth.name = "<init>") : ∀ ci ∈ [8], Fp vwCl meth "SerialPlantModel" 13 (.array .int) ci := fk1 (fp_mk "SerialPlantModel" TMo 41 tyMo rfl tyMo_ok nmMo (tyMo_ok 13 (by decide)) (Or.inr ⟨rfl, hn, rfl⟩))
theorem P_Mo_Mo_14 {meth : Method} (hn : meth.name = "<init>") : ∀ ci ∈ [8], Fp vwCl meth "SerialPlantModel" 14 (.array .int) ci := fk1 (fp_mk "SerialPlantModel" TMo 41 tyMo rfl tyMo_ok nmMo (tyMo_ok 14 (by decide)) (Or.inr ⟨rfl, hn, rfl⟩))
theorem P_Mo_Mo_15 {meth : Method} (hn : meth.name = "<init>") : ∀ ci ∈ [8], Fp vwCl meth "SerialPlantModel" 15 (.array .long) ci := fk1 (fp_mk "SerialPlantModel" TMo 41 tyMo rfl tyMo_ok nmMo (tyMo_ok 15 (by decide)) (Or.inr ⟨rfl, hn, rfl⟩))
theorem P_Mo_Mo_16 {meth : Method} (hn : meth.name = "<init>") : ∀ ci ∈ [8], Fp vwCl meth "SerialPlantModel" 16 (.array .int) ci := fk1 (fp_mk "SerialPlantModel" TMo 41 tyMo rfl tyMo_ok nmMo (tyMo_ok 16 (by decide)) (Or.inr ⟨rfl, hn, rfl⟩))
theorem P_Mo_Mo_17 {meth : Method} (hn : meth.name = "<init>") : ∀ ci ∈ [8], Fp vwCl meth "SerialPlantModel" 17 (.array .int) ci := fk1 (fp_mk "SerialPlantModel" TMo 41 tyMo rfl tyMo_ok nmMo (tyMo_ok 17 (by decide)) (Or.inr ⟨rfl, hn, rfl⟩))
theorem P_Mo_Mo_18 {meth : Method} (hn : meth.name = "<init>") : ∀ ci ∈ [8], Fp vwCl meth "SerialPlantModel" 18 (.array .long) ci := fk1 (fp_mk "SerialPlantModel" TMo 41 tyMo rfl tyMo_ok nmMo (tyMo_ok 18 (by decide)) (Or.inr ⟨rfl, hn, rfl⟩))
theorem P_Mo_Mo_20 {meth : Method} (hn : meth.name = "<init>") : ∀ ci ∈ [8], Fp vwCl meth "SerialPlantModel" 20 (.array .int) ci := fk1 (fp_mk "SerialPlantModel" TMo 41 tyMo rfl tyMo_ok nmMo (tyMo_ok 20 (by decide)) (Or.inr ⟨rfl, hn, rfl⟩))
theorem P_Mo_Mo_21 {meth : Method} (hn : meth.name = "<init>") : ∀ ci ∈ [8], Fp vwCl meth "SerialPlantModel" 21 (.array .int) ci := fk1 (fp_mk "SerialPlantModel" TMo 41 tyMo rfl tyMo_ok nmMo (tyMo_ok 21 (by decide)) (Or.inr ⟨rfl, hn, rfl⟩))
theorem P_Mo_Mo_22 {meth : Method} (hn : meth.name = "<init>") : ∀ ci ∈ [8], Fp vwCl meth "SerialPlantModel" 22 (.array .int) ci := fk1 (fp_mk "SerialPlantModel" TMo 41 tyMo rfl tyMo_ok nmMo (tyMo_ok 22 (by decide)) (Or.inr ⟨rfl, hn, rfl⟩))
theorem P_Mo_Mo_23 {meth : Method} (hn : meth.name = "<init>") : ∀ ci ∈ [8], Fp vwCl meth "SerialPlantModel" 23 (.array .boolean) ci := fk1 (fp_mk "SerialPlantModel" TMo 41 tyMo rfl tyMo_ok nmMo (tyMo_ok 23 (by decide)) (Or.inr ⟨rfl, hn, rfl⟩))
theorem P_Mo_Mo_24 {meth : Method} (hn : meth.name = "<init>") : ∀ ci ∈ [8], Fp vwCl meth "SerialPlantModel" 24 (.array .int) ci := fk1 (fp_mk "SerialPlantModel" TMo 41 tyMo rfl tyMo_ok nmMo (tyMo_ok 24 (by decide)) (Or.inr ⟨rfl, hn, rfl⟩))
theorem P_Mo_Mo_26 {meth : Method} (hn : meth.name = "<init>") : ∀ ci ∈ [8], Fp vwCl meth "SerialPlantModel" 26 (.array .int) ci := fk1 (fp_mk "SerialPlantModel" TMo 41 tyMo rfl tyMo_ok nmMo (tyMo_ok 26 (by decide)) (Or.inr ⟨rfl, hn, rfl⟩))
theorem P_Mo_Mo_27 {meth : Method} (hn : meth.name = "<init>") : ∀ ci ∈ [8], Fp vwCl meth "SerialPlantModel" 27 (.array .int) ci := fk1 (fp_mk "SerialPlantModel" TMo 41 tyMo rfl tyMo_ok nmMo (tyMo_ok 27 (by decide)) (Or.inr ⟨rfl, hn, rfl⟩))
theorem P_Mo_Mo_28 {meth : Method} (hn : meth.name = "<init>") : ∀ ci ∈ [8], Fp vwCl meth "SerialPlantModel" 28 (.array .int) ci := fk1 (fp_mk "SerialPlantModel" TMo 41 tyMo rfl tyMo_ok nmMo (tyMo_ok 28 (by decide)) (Or.inr ⟨rfl, hn, rfl⟩))
theorem P_Mo_Mo_29 {meth : Method} (hn : meth.name = "<init>") : ∀ ci ∈ [8], Fp vwCl meth "SerialPlantModel" 29 (.array .int) ci := fk1 (fp_mk "SerialPlantModel" TMo 41 tyMo rfl tyMo_ok nmMo (tyMo_ok 29 (by decide)) (Or.inr ⟨rfl, hn, rfl⟩))
theorem P_Mo_Mo_30 {meth : Method} (hn : meth.name = "<init>") : ∀ ci ∈ [8], Fp vwCl meth "SerialPlantModel" 30 (.array .int) ci := fk1 (fp_mk "SerialPlantModel" TMo 41 tyMo rfl tyMo_ok nmMo (tyMo_ok 30 (by decide)) (Or.inr ⟨rfl, hn, rfl⟩))
theorem P_Mo_Mo_31 {meth : Method} (hn : meth.name = "<init>") : ∀ ci ∈ [8], Fp vwCl meth "SerialPlantModel" 31 (.array .int) ci := fk1 (fp_mk "SerialPlantModel" TMo 41 tyMo rfl tyMo_ok nmMo (tyMo_ok 31 (by decide)) (Or.inr ⟨rfl, hn, rfl⟩))
theorem P_Mo_Mo_32 {meth : Method} (hn : meth.name = "<init>") : ∀ ci ∈ [8], Fp vwCl meth "SerialPlantModel" 32 (.array .int) ci := fk1 (fp_mk "SerialPlantModel" TMo 41 tyMo rfl tyMo_ok nmMo (tyMo_ok 32 (by decide)) (Or.inr ⟨rfl, hn, rfl⟩))
theorem P_Mo_Mo_33 {meth : Method} (hn : meth.name = "<init>") : ∀ ci ∈ [8], Fp vwCl meth "SerialPlantModel" 33 (.array .int) ci := fk1 (fp_mk "SerialPlantModel" TMo 41 tyMo rfl tyMo_ok nmMo (tyMo_ok 33 (by decide)) (Or.inr ⟨rfl, hn, rfl⟩))
theorem P_Mo_Mo_34 {meth : Method} (hn : meth.name = "<init>") : ∀ ci ∈ [8], Fp vwCl meth "SerialPlantModel" 34 (.array .long) ci := fk1 (fp_mk "SerialPlantModel" TMo 41 tyMo rfl tyMo_ok nmMo (tyMo_ok 34 (by decide)) (Or.inr ⟨rfl, hn, rfl⟩))
theorem P_Mo_Mo_35 {meth : Method} (hn : meth.name = "<init>") : ∀ ci ∈ [8], Fp vwCl meth "SerialPlantModel" 35 (.array .boolean) ci := fk1 (fp_mk "SerialPlantModel" TMo 41 tyMo rfl tyMo_ok nmMo (tyMo_ok 35 (by decide)) (Or.inr ⟨rfl, hn, rfl⟩))
theorem P_Mo_Mo_36 {meth : Method} (hn : meth.name = "<init>") : ∀ ci ∈ [8], Fp vwCl meth "SerialPlantModel" 36 (.array .boolean) ci := fk1 (fp_mk "SerialPlantModel" TMo 41 tyMo rfl tyMo_ok nmMo (tyMo_ok 36 (by decide)) (Or.inr ⟨rfl, hn, rfl⟩))
theorem P_Mo_Mo_37 {meth : Method} (hn : meth.name = "<init>") : ∀ ci ∈ [8], Fp vwCl meth "SerialPlantModel" 37 (.array .int) ci := fk1 (fp_mk "SerialPlantModel" TMo 41 tyMo rfl tyMo_ok nmMo (tyMo_ok 37 (by decide)) (Or.inr ⟨rfl, hn, rfl⟩))
theorem P_Mo_Mo_38 {meth : Method} (hn : meth.name = "<init>") : ∀ ci ∈ [8], Fp vwCl meth "SerialPlantModel" 38 (.array .int) ci := fk1 (fp_mk "SerialPlantModel" TMo 41 tyMo rfl tyMo_ok nmMo (tyMo_ok 38 (by decide)) (Or.inr ⟨rfl, hn, rfl⟩))
theorem P_Mo_Mo_19 {meth : Method} : ∀ ci ∈ [8], Fp vwCl meth "SerialPlantModel" 19 (.int) ci := fk1 (fp_mk "SerialPlantModel" TMo 41 tyMo rfl tyMo_ok nmMo (tyMo_ok 19 (by decide)) (Or.inl rfl))
theorem P_Mo_Mo_10 {meth : Method} : ∀ ci ∈ [8], Fp vwCl meth "SerialPlantModel" 10 (.int) ci := fk1 (fp_mk "SerialPlantModel" TMo 41 tyMo rfl tyMo_ok nmMo (tyMo_ok 10 (by decide)) (Or.inl rfl))
theorem P_Mo_Mo_40 {meth : Method} : ∀ ci ∈ [8], Fp vwCl meth "SerialPlantModel" 40 (.long) ci := fk1 (fp_mk "SerialPlantModel" TMo 41 tyMo rfl tyMo_ok nmMo (tyMo_ok 40 (by decide)) (Or.inl rfl))
theorem P_Mo_Mo_39 {meth : Method} : ∀ ci ∈ [8], Fp vwCl meth "SerialPlantModel" 39 (.int) ci := fk1 (fp_mk "SerialPlantModel" TMo 41 tyMo rfl tyMo_ok nmMo (tyMo_ok 39 (by decide)) (Or.inl rfl))
theorem P_Mo_Mo_25 {meth : Method} : ∀ ci ∈ [8], Fp vwCl meth "SerialPlantModel" 25 (.int) ci := fk1 (fp_mk "SerialPlantModel" TMo 41 tyMo rfl tyMo_ok nmMo (tyMo_ok 25 (by decide)) (Or.inl rfl))
theorem P_Mo_Mo_0 {meth : Method} : ∀ ci ∈ [8], Fp vwCl meth "SerialPlantModel" 0 (.int) ci := fk1 (fp_mk "SerialPlantModel" TMo 41 tyMo rfl tyMo_ok nmMo (tyMo_ok 0 (by decide)) (Or.inl rfl))
