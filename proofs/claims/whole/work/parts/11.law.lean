/-! THE CLAIM OUT OF ONE WALK OF THE LAW'S BODY. Your part is whole_start (and what it stands on); all else here is the same for every law, but numbers. -/
def R_law : String := "SerialPlantLaw"
def lw_P (b : Addr) (xs : List Int32) (args : Array Value) (s : State) : Prop := args = #[.ref b] ∧ s.IntsAt b xs ∧ xs.length ≤ 3584 ∧ (Jvm.Cond.and given_1 narrow_1).before args s = true
def lw_Q (_ : Array Value) (s : State) (o : Outcome) (t : State) : Prop := o = .returned (some (.int 1)) ∧ Framed s o t [] 600000 7302250
def lw_Z (below : List Frame) (a : Array Value) (s : State) : State → Prop := fun t => ∃ o, t.status = .running ∧ Ended t below o ∧ lw_Q a s o t
/-- the law's own end, with 1 on the stack, nothing written that was there before, its room as the claim has it -/
theorem lw_ret {p : Program} {l : Launch} {e : Env} {s : State} {m : MethodId} {below : List Frame} {meth : Method} {c : Code} {b : Nat} (hx : p.tables.exec = Jvm.exec) (hb : c.code = code) (hr : meth.sig.returnType = ret) (hlocks : meth.locks = false) {pc : Nat} {H : Heap} {ls : Array Slot} (hdg : decode code pc = .ok (.ireturn, 1)) : W p l e room_1 s m #[Value.ref b] below meth c H [] 600000 7302250 (lw_Z below #[Value.ref b] s) (F0 m pc ls [.int 1]) := by
  intro T hT X
  obtain ⟨fs, hret, hrun, hended, hW, hframe⟩ := X.leave (v := some (.int 1)) (hlocks := hlocks) (fun h => by rw [hr] at h; cases h)
  have hmeth' : T.vm.method? m = some meth := X.method'
  refine ⟨T.setFrames fs, ?_, .returned (some (.int 1)), hrun, hended, rfl, ⟨_, rfl⟩, hW, hframe⟩
  jvm_step X.here [X.here.top, hx, hb, hdg, hmeth', hr, ret, narrow_b1]
  (try refine ⟨rfl, ?_⟩); (try refine ⟨rfl, ?_⟩)
  first | (intro acts; rw [hret _ acts rfl rfl rfl]) | rw [hret _ _ rfl rfl rfl]
  exact Steps.refl _
/-- what holds at the law's entry: the machine, the code, the tables' words (any of lw_tbl by 'hts w (by decide +kernel)'), the script of L ints xs at the cell b, what the Statement gives of the start (any of its parts by flat_of_before) -/
def lw_At (p : Program) (s : State) (m : MethodId) (meth : Method) (c : Code) (b L : Nat) (xs : Nat → Int32) : Prop :=
  p.tables.exec = Jvm.exec ∧ c.code = code ∧ meth.sig.returnType = ret ∧ c.maxLocals = 4 ∧ s.vm.findClass R_law = some m.cls ∧ (∀ w ∈ lw_tbl, w.before #[Value.ref b] s = true) ∧ va_X b L xs s s.heap ∧ b < s.heap.size ∧ meth.locks = false ∧ (Jvm.Cond.and given_1 narrow_1).before #[Value.ref b] s = true
abbrev cLw_law : ByteArray := code
/-- the script's place i -/
def sx (xs : Nat → Int32) (L : Nat) (i : Int32) : Option Int32 := (ax i L).bind fun k => some (xs k)
theorem lp_indN {σ ρ : Type} {step : σ → Option (σ ⊕ ρ)} {P : Nat → σ → Prop} {Q : ρ → Prop} {r : ρ} (hs : ∀ n s x, step s = some x → (∀ s', x = .inl s' → P n s') → (∀ y, x = .inr y → Q y) → P (n + 1) s) (hq : Q r) : ∀ n s, lp step n s = some r → P n s := by
  intro n
  induction n with
  | zero => intro s h; cases h
  | succ n ih =>
    intro s h
    obtain ⟨x, h1, h2⟩ := Option.bind_eq_some_iff.mp h
    cases x with
    | inl s' => exact hs n s _ h1 (fun s2 e => by cases e; exact ih s' h2) (fun y e => by cases e)
    | inr y =>
      have e : y = r := Option.some.inj h2
      subst e
      exact hs n s _ h1 (fun s2 e => by cases e) (fun z e => by cases e; exact hq)
section LW
variable {p : Program} {l : Launch} {e : Env} {R : Room} {s : State} {m : MethodId} {args : Array Value} {below : List Frame} {meth : Method} {c : Code} {H : Heap} {locs : List Loc} {cells slots : Nat} {Q : State → Prop}
variable {cc : ByteArray} {pc : Nat} {ls : Array Slot} {rest : List Value} {D : va_G} {cl : List vw_C} {tys : List (ClassId × FieldType)} {b b0 L : Nat} {xs : Nat → Int32} {S S' : Ws}
theorem hq_sld (hexec : p.tables.exec = Jvm.exec) (hb : c.code = cc) (hX : va_X b0 L xs s s.heap ∧ b0 < b) (hW : Wd D cl tys b S s H locs) {i x : Int32} (hv : sx xs L i = some x) (hdg : decode cc pc = .ok (.iaload, 1))
    (kk : W p l e R s m args below meth c H locs cells slots Q (F0 m (pc + 1) ls (.int x :: rest))) : W p l e R s m args below meth c H locs cells slots Q (F0 m pc ls (.int i :: .ref b0 :: rest)) := by
  obtain ⟨k, h1, h2⟩ := Option.bind_eq_some_iff.mp hv
  obtain ⟨h3, rfl⟩ := ax_some h1
  have e2 : x = xs i.toNatClampNeg := (Option.some.inj h2).symm
  subst e2
  exact va_sld hexec hb hX.1 (Nat.lt_of_lt_of_le hX.2 hW.1.2.2.1) (Nat.not_le.mpr hX.2) hW.2.2.2 h3 hdg kk
theorem hq_slen (hexec : p.tables.exec = Jvm.exec) (hb : c.code = cc) (hX : va_X b0 L xs s s.heap ∧ b0 < b) (hW : Wd D cl tys b S s H locs) (hdg : decode cc pc = .ok (.arraylength, 1))
    (kk : W p l e R s m args below meth c H locs cells slots Q (F0 m (pc + 1) ls (.int (Int32.ofNat L) :: rest))) : W p l e R s m args below meth c H locs cells slots Q (F0 m pc ls (.ref b0 :: rest)) :=
  va_slen hexec hb hX.1 (Nat.lt_of_lt_of_le hX.2 hW.1.2.2.1) (Nat.not_le.mpr hX.2) hW.2.2.2 hdg kk
theorem hq_lwret {v : Int32} (hargs : args = #[Value.ref b0]) (hbe : s.heap.size ≤ b) (hexec : p.tables.exec = Jvm.exec) (hb : c.code = code) (hr : meth.sig.returnType = ret) (hlocks : meth.locks = false) (hz : v = 0 ∨ v = 1) (h : some (v, S) = some (1, S')) (hc1 : cells ≤ 600000) (hc2 : slots ≤ 7302250) (hW : Wd D cl tys b S s H locs) (hdg : decode code pc = .ok (.ireturn, 1)) : W p l e room_1 s m args below meth c H locs cells slots (lw_Z below args s) (F0 m pc ls [.int v]) := by
  cases h
  subst hargs
  exact va_forget (fun q hq => Nat.le_trans hbe (hW.2.2.2.2.2 q hq)) (W.widen hc1 hc2 (lw_ret hexec hb hr hlocks hdg))
end LW
theorem dLw_law_0 : decode cLw_law 0 = .ok (.new 7, 3) := by decide +kernel
theorem dLw_law_3 : decode cLw_law 3 = .ok (.dup, 1) := by decide +kernel
theorem dLw_law_4 : decode cLw_law 4 = .ok (.invokespecial 9, 3) := by decide +kernel
theorem dLw_law_7 : decode cLw_law 7 = .ok (.astore_n 1, 1) := by decide +kernel
theorem dLw_law_8 : decode cLw_law 8 = .ok (.new 10, 3) := by decide +kernel
theorem dLw_law_11 : decode cLw_law 11 = .ok (.dup, 1) := by decide +kernel
theorem dLw_law_12 : decode cLw_law 12 = .ok (.invokespecial 12, 3) := by decide +kernel
theorem dLw_law_15 : decode cLw_law 15 = .ok (.astore_n 2, 1) := by decide +kernel
theorem dLw_law_16 : decode cLw_law 16 = .ok (.iconst 0, 1) := by decide +kernel
theorem dLw_law_17 : decode cLw_law 17 = .ok (.istore_n 3, 1) := by decide +kernel
theorem dLw_law_18 : decode cLw_law 18 = .ok (.iload_n 3, 1) := by decide +kernel
theorem dLw_law_19 : decode cLw_law 19 = .ok (.aload_n 0, 1) := by decide +kernel
theorem dLw_law_20 : decode cLw_law 20 = .ok (.arraylength, 1) := by decide +kernel
theorem dLw_law_21 : decode cLw_law 21 = .ok (.bipush 7, 2) := by decide +kernel
theorem dLw_law_23 : decode cLw_law 23 = .ok (.isub, 1) := by decide +kernel
theorem dLw_law_24 : decode cLw_law 24 = .ok (.if_icmp .gt 682, 3) := by decide +kernel
theorem dLw_law_27 : decode cLw_law 27 = .ok (.aload_n 0, 1) := by decide +kernel
theorem dLw_law_28 : decode cLw_law 28 = .ok (.iload_n 3, 1) := by decide +kernel
theorem dLw_law_29 : decode cLw_law 29 = .ok (.iaload, 1) := by decide +kernel
theorem dLw_law_30 : decode cLw_law 30 = .ok (.bipush 15, 2) := by decide +kernel
theorem dLw_law_32 : decode cLw_law 32 = .ok (.iand, 1) := by decide +kernel
theorem dLw_law_33 : decode cLw_law 33 = .ok (.tableswitch 667 0 12 #[67, 110, 159, 212, 255, 298, 393, 452, 465, 499, 532, 591, 624], 67) := by decide +kernel
theorem dLw_law_100 : decode cLw_law 100 = .ok (.aload_n 1, 1) := by decide +kernel
theorem dLw_law_101 : decode cLw_law 101 = .ok (.aload_n 0, 1) := by decide +kernel
theorem dLw_law_102 : decode cLw_law 102 = .ok (.iload_n 3, 1) := by decide +kernel
theorem dLw_law_103 : decode cLw_law 103 = .ok (.iconst 1, 1) := by decide +kernel
theorem dLw_law_104 : decode cLw_law 104 = .ok (.iadd, 1) := by decide +kernel
theorem dLw_law_105 : decode cLw_law 105 = .ok (.iaload, 1) := by decide +kernel
theorem dLw_law_106 : decode cLw_law 106 = .ok (.aload_n 0, 1) := by decide +kernel
theorem dLw_law_107 : decode cLw_law 107 = .ok (.iload_n 3, 1) := by decide +kernel
theorem dLw_law_108 : decode cLw_law 108 = .ok (.iconst 2, 1) := by decide +kernel
theorem dLw_law_109 : decode cLw_law 109 = .ok (.iadd, 1) := by decide +kernel
theorem dLw_law_110 : decode cLw_law 110 = .ok (.iaload, 1) := by decide +kernel
theorem dLw_law_111 : decode cLw_law 111 = .ok (.aload_n 0, 1) := by decide +kernel
theorem dLw_law_112 : decode cLw_law 112 = .ok (.iload_n 3, 1) := by decide +kernel
theorem dLw_law_113 : decode cLw_law 113 = .ok (.iconst 3, 1) := by decide +kernel
theorem dLw_law_114 : decode cLw_law 114 = .ok (.iadd, 1) := by decide +kernel
theorem dLw_law_115 : decode cLw_law 115 = .ok (.iaload, 1) := by decide +kernel
theorem dLw_law_116 : decode cLw_law 116 = .ok (.invokevirtual 13, 3) := by decide +kernel
theorem dLw_law_119 : decode cLw_law 119 = .ok (.aload_n 2, 1) := by decide +kernel
theorem dLw_law_120 : decode cLw_law 120 = .ok (.aload_n 0, 1) := by decide +kernel
theorem dLw_law_121 : decode cLw_law 121 = .ok (.iload_n 3, 1) := by decide +kernel
theorem dLw_law_122 : decode cLw_law 122 = .ok (.iconst 1, 1) := by decide +kernel
theorem dLw_law_123 : decode cLw_law 123 = .ok (.iadd, 1) := by decide +kernel
theorem dLw_law_124 : decode cLw_law 124 = .ok (.iaload, 1) := by decide +kernel
theorem dLw_law_125 : decode cLw_law 125 = .ok (.aload_n 0, 1) := by decide +kernel
theorem dLw_law_126 : decode cLw_law 126 = .ok (.iload_n 3, 1) := by decide +kernel
theorem dLw_law_127 : decode cLw_law 127 = .ok (.iconst 2, 1) := by decide +kernel
theorem dLw_law_128 : decode cLw_law 128 = .ok (.iadd, 1) := by decide +kernel
theorem dLw_law_129 : decode cLw_law 129 = .ok (.iaload, 1) := by decide +kernel
theorem dLw_law_130 : decode cLw_law 130 = .ok (.aload_n 0, 1) := by decide +kernel
theorem dLw_law_131 : decode cLw_law 131 = .ok (.iload_n 3, 1) := by decide +kernel
theorem dLw_law_132 : decode cLw_law 132 = .ok (.iconst 3, 1) := by decide +kernel
theorem dLw_law_133 : decode cLw_law 133 = .ok (.iadd, 1) := by decide +kernel
theorem dLw_law_134 : decode cLw_law 134 = .ok (.iaload, 1) := by decide +kernel
theorem dLw_law_135 : decode cLw_law 135 = .ok (.invokevirtual 17, 3) := by decide +kernel
theorem dLw_law_138 : decode cLw_law 138 = .ok (.if_icmp .eq 562, 3) := by decide +kernel
theorem dLw_law_141 : decode cLw_law 141 = .ok (.iconst 0, 1) := by decide +kernel
theorem dLw_law_142 : decode cLw_law 142 = .ok (.ireturn, 1) := by decide +kernel
theorem dLw_law_143 : decode cLw_law 143 = .ok (.aload_n 1, 1) := by decide +kernel
theorem dLw_law_144 : decode cLw_law 144 = .ok (.aload_n 0, 1) := by decide +kernel
theorem dLw_law_145 : decode cLw_law 145 = .ok (.iload_n 3, 1) := by decide +kernel
theorem dLw_law_146 : decode cLw_law 146 = .ok (.iconst 1, 1) := by decide +kernel
theorem dLw_law_147 : decode cLw_law 147 = .ok (.iadd, 1) := by decide +kernel
theorem dLw_law_148 : decode cLw_law 148 = .ok (.iaload, 1) := by decide +kernel
theorem dLw_law_149 : decode cLw_law 149 = .ok (.aload_n 0, 1) := by decide +kernel
theorem dLw_law_150 : decode cLw_law 150 = .ok (.iload_n 3, 1) := by decide +kernel
theorem dLw_law_151 : decode cLw_law 151 = .ok (.iconst 2, 1) := by decide +kernel
theorem dLw_law_152 : decode cLw_law 152 = .ok (.iadd, 1) := by decide +kernel
theorem dLw_law_153 : decode cLw_law 153 = .ok (.iaload, 1) := by decide +kernel
theorem dLw_law_154 : decode cLw_law 154 = .ok (.ifCond .eq 7, 3) := by decide +kernel
theorem dLw_law_157 : decode cLw_law 157 = .ok (.iconst 1, 1) := by decide +kernel
theorem dLw_law_158 : decode cLw_law 158 = .ok (.goto 4, 3) := by decide +kernel
theorem dLw_law_161 : decode cLw_law 161 = .ok (.iconst 0, 1) := by decide +kernel
theorem dLw_law_162 : decode cLw_law 162 = .ok (.invokevirtual 18, 3) := by decide +kernel
theorem dLw_law_165 : decode cLw_law 165 = .ok (.aload_n 2, 1) := by decide +kernel
theorem dLw_law_166 : decode cLw_law 166 = .ok (.aload_n 0, 1) := by decide +kernel
theorem dLw_law_167 : decode cLw_law 167 = .ok (.iload_n 3, 1) := by decide +kernel
theorem dLw_law_168 : decode cLw_law 168 = .ok (.iconst 1, 1) := by decide +kernel
theorem dLw_law_169 : decode cLw_law 169 = .ok (.iadd, 1) := by decide +kernel
theorem dLw_law_170 : decode cLw_law 170 = .ok (.iaload, 1) := by decide +kernel
theorem dLw_law_171 : decode cLw_law 171 = .ok (.aload_n 0, 1) := by decide +kernel
theorem dLw_law_172 : decode cLw_law 172 = .ok (.iload_n 3, 1) := by decide +kernel
theorem dLw_law_173 : decode cLw_law 173 = .ok (.iconst 2, 1) := by decide +kernel
theorem dLw_law_174 : decode cLw_law 174 = .ok (.iadd, 1) := by decide +kernel
theorem dLw_law_175 : decode cLw_law 175 = .ok (.iaload, 1) := by decide +kernel
theorem dLw_law_176 : decode cLw_law 176 = .ok (.ifCond .eq 7, 3) := by decide +kernel
theorem dLw_law_179 : decode cLw_law 179 = .ok (.iconst 1, 1) := by decide +kernel
theorem dLw_law_180 : decode cLw_law 180 = .ok (.goto 4, 3) := by decide +kernel
theorem dLw_law_183 : decode cLw_law 183 = .ok (.iconst 0, 1) := by decide +kernel
theorem dLw_law_184 : decode cLw_law 184 = .ok (.invokevirtual 22, 3) := by decide +kernel
theorem dLw_law_187 : decode cLw_law 187 = .ok (.if_icmp .eq 513, 3) := by decide +kernel
theorem dLw_law_190 : decode cLw_law 190 = .ok (.iconst 0, 1) := by decide +kernel
theorem dLw_law_191 : decode cLw_law 191 = .ok (.ireturn, 1) := by decide +kernel
theorem dLw_law_192 : decode cLw_law 192 = .ok (.aload_n 1, 1) := by decide +kernel
theorem dLw_law_193 : decode cLw_law 193 = .ok (.aload_n 0, 1) := by decide +kernel
theorem dLw_law_194 : decode cLw_law 194 = .ok (.iload_n 3, 1) := by decide +kernel
theorem dLw_law_195 : decode cLw_law 195 = .ok (.iconst 1, 1) := by decide +kernel
theorem dLw_law_196 : decode cLw_law 196 = .ok (.iadd, 1) := by decide +kernel
theorem dLw_law_197 : decode cLw_law 197 = .ok (.iaload, 1) := by decide +kernel
theorem dLw_law_198 : decode cLw_law 198 = .ok (.aload_n 0, 1) := by decide +kernel
theorem dLw_law_199 : decode cLw_law 199 = .ok (.iload_n 3, 1) := by decide +kernel
theorem dLw_law_200 : decode cLw_law 200 = .ok (.iconst 2, 1) := by decide +kernel
theorem dLw_law_201 : decode cLw_law 201 = .ok (.iadd, 1) := by decide +kernel
theorem dLw_law_202 : decode cLw_law 202 = .ok (.iaload, 1) := by decide +kernel
theorem dLw_law_203 : decode cLw_law 203 = .ok (.aload_n 0, 1) := by decide +kernel
theorem dLw_law_204 : decode cLw_law 204 = .ok (.iload_n 3, 1) := by decide +kernel
theorem dLw_law_205 : decode cLw_law 205 = .ok (.iconst 3, 1) := by decide +kernel
theorem dLw_law_206 : decode cLw_law 206 = .ok (.iadd, 1) := by decide +kernel
theorem dLw_law_207 : decode cLw_law 207 = .ok (.iaload, 1) := by decide +kernel
theorem dLw_law_208 : decode cLw_law 208 = .ok (.aload_n 0, 1) := by decide +kernel
theorem dLw_law_209 : decode cLw_law 209 = .ok (.iload_n 3, 1) := by decide +kernel
theorem dLw_law_210 : decode cLw_law 210 = .ok (.iconst 4, 1) := by decide +kernel
theorem dLw_law_211 : decode cLw_law 211 = .ok (.iadd, 1) := by decide +kernel
theorem dLw_law_212 : decode cLw_law 212 = .ok (.iaload, 1) := by decide +kernel
theorem dLw_law_213 : decode cLw_law 213 = .ok (.invokevirtual 23, 3) := by decide +kernel
theorem dLw_law_216 : decode cLw_law 216 = .ok (.aload_n 2, 1) := by decide +kernel
theorem dLw_law_217 : decode cLw_law 217 = .ok (.aload_n 0, 1) := by decide +kernel
theorem dLw_law_218 : decode cLw_law 218 = .ok (.iload_n 3, 1) := by decide +kernel
theorem dLw_law_219 : decode cLw_law 219 = .ok (.iconst 1, 1) := by decide +kernel
theorem dLw_law_220 : decode cLw_law 220 = .ok (.iadd, 1) := by decide +kernel
theorem dLw_law_221 : decode cLw_law 221 = .ok (.iaload, 1) := by decide +kernel
theorem dLw_law_222 : decode cLw_law 222 = .ok (.aload_n 0, 1) := by decide +kernel
theorem dLw_law_223 : decode cLw_law 223 = .ok (.iload_n 3, 1) := by decide +kernel
theorem dLw_law_224 : decode cLw_law 224 = .ok (.iconst 2, 1) := by decide +kernel
theorem dLw_law_225 : decode cLw_law 225 = .ok (.iadd, 1) := by decide +kernel
theorem dLw_law_226 : decode cLw_law 226 = .ok (.iaload, 1) := by decide +kernel
theorem dLw_law_227 : decode cLw_law 227 = .ok (.aload_n 0, 1) := by decide +kernel
theorem dLw_law_228 : decode cLw_law 228 = .ok (.iload_n 3, 1) := by decide +kernel
theorem dLw_law_229 : decode cLw_law 229 = .ok (.iconst 3, 1) := by decide +kernel
theorem dLw_law_230 : decode cLw_law 230 = .ok (.iadd, 1) := by decide +kernel
theorem dLw_law_231 : decode cLw_law 231 = .ok (.iaload, 1) := by decide +kernel
theorem dLw_law_232 : decode cLw_law 232 = .ok (.aload_n 0, 1) := by decide +kernel
theorem dLw_law_233 : decode cLw_law 233 = .ok (.iload_n 3, 1) := by decide +kernel
theorem dLw_law_234 : decode cLw_law 234 = .ok (.iconst 4, 1) := by decide +kernel
theorem dLw_law_235 : decode cLw_law 235 = .ok (.iadd, 1) := by decide +kernel
theorem dLw_law_236 : decode cLw_law 236 = .ok (.iaload, 1) := by decide +kernel
theorem dLw_law_237 : decode cLw_law 237 = .ok (.invokevirtual 27, 3) := by decide +kernel
theorem dLw_law_240 : decode cLw_law 240 = .ok (.if_icmp .eq 460, 3) := by decide +kernel
theorem dLw_law_243 : decode cLw_law 243 = .ok (.iconst 0, 1) := by decide +kernel
theorem dLw_law_244 : decode cLw_law 244 = .ok (.ireturn, 1) := by decide +kernel
theorem dLw_law_245 : decode cLw_law 245 = .ok (.aload_n 1, 1) := by decide +kernel
theorem dLw_law_246 : decode cLw_law 246 = .ok (.aload_n 0, 1) := by decide +kernel
theorem dLw_law_247 : decode cLw_law 247 = .ok (.iload_n 3, 1) := by decide +kernel
theorem dLw_law_248 : decode cLw_law 248 = .ok (.iconst 1, 1) := by decide +kernel
theorem dLw_law_249 : decode cLw_law 249 = .ok (.iadd, 1) := by decide +kernel
theorem dLw_law_250 : decode cLw_law 250 = .ok (.iaload, 1) := by decide +kernel
theorem dLw_law_251 : decode cLw_law 251 = .ok (.aload_n 0, 1) := by decide +kernel
theorem dLw_law_252 : decode cLw_law 252 = .ok (.iload_n 3, 1) := by decide +kernel
theorem dLw_law_253 : decode cLw_law 253 = .ok (.iconst 2, 1) := by decide +kernel
theorem dLw_law_254 : decode cLw_law 254 = .ok (.iadd, 1) := by decide +kernel
theorem dLw_law_255 : decode cLw_law 255 = .ok (.iaload, 1) := by decide +kernel
theorem dLw_law_256 : decode cLw_law 256 = .ok (.aload_n 0, 1) := by decide +kernel
theorem dLw_law_257 : decode cLw_law 257 = .ok (.iload_n 3, 1) := by decide +kernel
theorem dLw_law_258 : decode cLw_law 258 = .ok (.iconst 3, 1) := by decide +kernel
theorem dLw_law_259 : decode cLw_law 259 = .ok (.iadd, 1) := by decide +kernel
theorem dLw_law_260 : decode cLw_law 260 = .ok (.iaload, 1) := by decide +kernel
theorem dLw_law_261 : decode cLw_law 261 = .ok (.invokevirtual 28, 3) := by decide +kernel
theorem dLw_law_264 : decode cLw_law 264 = .ok (.aload_n 2, 1) := by decide +kernel
theorem dLw_law_265 : decode cLw_law 265 = .ok (.aload_n 0, 1) := by decide +kernel
theorem dLw_law_266 : decode cLw_law 266 = .ok (.iload_n 3, 1) := by decide +kernel
theorem dLw_law_267 : decode cLw_law 267 = .ok (.iconst 1, 1) := by decide +kernel
theorem dLw_law_268 : decode cLw_law 268 = .ok (.iadd, 1) := by decide +kernel
theorem dLw_law_269 : decode cLw_law 269 = .ok (.iaload, 1) := by decide +kernel
theorem dLw_law_270 : decode cLw_law 270 = .ok (.aload_n 0, 1) := by decide +kernel
theorem dLw_law_271 : decode cLw_law 271 = .ok (.iload_n 3, 1) := by decide +kernel
theorem dLw_law_272 : decode cLw_law 272 = .ok (.iconst 2, 1) := by decide +kernel
theorem dLw_law_273 : decode cLw_law 273 = .ok (.iadd, 1) := by decide +kernel
theorem dLw_law_274 : decode cLw_law 274 = .ok (.iaload, 1) := by decide +kernel
theorem dLw_law_275 : decode cLw_law 275 = .ok (.aload_n 0, 1) := by decide +kernel
theorem dLw_law_276 : decode cLw_law 276 = .ok (.iload_n 3, 1) := by decide +kernel
theorem dLw_law_277 : decode cLw_law 277 = .ok (.iconst 3, 1) := by decide +kernel
theorem dLw_law_278 : decode cLw_law 278 = .ok (.iadd, 1) := by decide +kernel
theorem dLw_law_279 : decode cLw_law 279 = .ok (.iaload, 1) := by decide +kernel
theorem dLw_law_280 : decode cLw_law 280 = .ok (.invokevirtual 32, 3) := by decide +kernel
theorem dLw_law_283 : decode cLw_law 283 = .ok (.if_icmp .eq 417, 3) := by decide +kernel
theorem dLw_law_286 : decode cLw_law 286 = .ok (.iconst 0, 1) := by decide +kernel
theorem dLw_law_287 : decode cLw_law 287 = .ok (.ireturn, 1) := by decide +kernel
theorem dLw_law_288 : decode cLw_law 288 = .ok (.aload_n 1, 1) := by decide +kernel
theorem dLw_law_289 : decode cLw_law 289 = .ok (.aload_n 0, 1) := by decide +kernel
theorem dLw_law_290 : decode cLw_law 290 = .ok (.iload_n 3, 1) := by decide +kernel
theorem dLw_law_291 : decode cLw_law 291 = .ok (.iconst 1, 1) := by decide +kernel
theorem dLw_law_292 : decode cLw_law 292 = .ok (.iadd, 1) := by decide +kernel
theorem dLw_law_293 : decode cLw_law 293 = .ok (.iaload, 1) := by decide +kernel
theorem dLw_law_294 : decode cLw_law 294 = .ok (.aload_n 0, 1) := by decide +kernel
theorem dLw_law_295 : decode cLw_law 295 = .ok (.iload_n 3, 1) := by decide +kernel
theorem dLw_law_296 : decode cLw_law 296 = .ok (.iconst 2, 1) := by decide +kernel
theorem dLw_law_297 : decode cLw_law 297 = .ok (.iadd, 1) := by decide +kernel
theorem dLw_law_298 : decode cLw_law 298 = .ok (.iaload, 1) := by decide +kernel
theorem dLw_law_299 : decode cLw_law 299 = .ok (.aload_n 0, 1) := by decide +kernel
theorem dLw_law_300 : decode cLw_law 300 = .ok (.iload_n 3, 1) := by decide +kernel
theorem dLw_law_301 : decode cLw_law 301 = .ok (.iconst 3, 1) := by decide +kernel
theorem dLw_law_302 : decode cLw_law 302 = .ok (.iadd, 1) := by decide +kernel
theorem dLw_law_303 : decode cLw_law 303 = .ok (.iaload, 1) := by decide +kernel
theorem dLw_law_304 : decode cLw_law 304 = .ok (.invokevirtual 33, 3) := by decide +kernel
theorem dLw_law_307 : decode cLw_law 307 = .ok (.aload_n 2, 1) := by decide +kernel
theorem dLw_law_308 : decode cLw_law 308 = .ok (.aload_n 0, 1) := by decide +kernel
theorem dLw_law_309 : decode cLw_law 309 = .ok (.iload_n 3, 1) := by decide +kernel
theorem dLw_law_310 : decode cLw_law 310 = .ok (.iconst 1, 1) := by decide +kernel
theorem dLw_law_311 : decode cLw_law 311 = .ok (.iadd, 1) := by decide +kernel
theorem dLw_law_312 : decode cLw_law 312 = .ok (.iaload, 1) := by decide +kernel
theorem dLw_law_313 : decode cLw_law 313 = .ok (.aload_n 0, 1) := by decide +kernel
theorem dLw_law_314 : decode cLw_law 314 = .ok (.iload_n 3, 1) := by decide +kernel
theorem dLw_law_315 : decode cLw_law 315 = .ok (.iconst 2, 1) := by decide +kernel
theorem dLw_law_316 : decode cLw_law 316 = .ok (.iadd, 1) := by decide +kernel
theorem dLw_law_317 : decode cLw_law 317 = .ok (.iaload, 1) := by decide +kernel
theorem dLw_law_318 : decode cLw_law 318 = .ok (.aload_n 0, 1) := by decide +kernel
theorem dLw_law_319 : decode cLw_law 319 = .ok (.iload_n 3, 1) := by decide +kernel
theorem dLw_law_320 : decode cLw_law 320 = .ok (.iconst 3, 1) := by decide +kernel
theorem dLw_law_321 : decode cLw_law 321 = .ok (.iadd, 1) := by decide +kernel
theorem dLw_law_322 : decode cLw_law 322 = .ok (.iaload, 1) := by decide +kernel
theorem dLw_law_323 : decode cLw_law 323 = .ok (.invokevirtual 36, 3) := by decide +kernel
theorem dLw_law_326 : decode cLw_law 326 = .ok (.if_icmp .eq 374, 3) := by decide +kernel
theorem dLw_law_329 : decode cLw_law 329 = .ok (.iconst 0, 1) := by decide +kernel
theorem dLw_law_330 : decode cLw_law 330 = .ok (.ireturn, 1) := by decide +kernel
theorem dLw_law_331 : decode cLw_law 331 = .ok (.aload_n 1, 1) := by decide +kernel
theorem dLw_law_332 : decode cLw_law 332 = .ok (.aload_n 0, 1) := by decide +kernel
theorem dLw_law_333 : decode cLw_law 333 = .ok (.iload_n 3, 1) := by decide +kernel
theorem dLw_law_334 : decode cLw_law 334 = .ok (.iconst 1, 1) := by decide +kernel
theorem dLw_law_335 : decode cLw_law 335 = .ok (.iadd, 1) := by decide +kernel
theorem dLw_law_336 : decode cLw_law 336 = .ok (.iaload, 1) := by decide +kernel
theorem dLw_law_337 : decode cLw_law 337 = .ok (.aload_n 0, 1) := by decide +kernel
theorem dLw_law_338 : decode cLw_law 338 = .ok (.iload_n 3, 1) := by decide +kernel
theorem dLw_law_339 : decode cLw_law 339 = .ok (.iconst 2, 1) := by decide +kernel
theorem dLw_law_340 : decode cLw_law 340 = .ok (.iadd, 1) := by decide +kernel
theorem dLw_law_341 : decode cLw_law 341 = .ok (.iaload, 1) := by decide +kernel
theorem dLw_law_342 : decode cLw_law 342 = .ok (.aload_n 0, 1) := by decide +kernel
theorem dLw_law_343 : decode cLw_law 343 = .ok (.iload_n 3, 1) := by decide +kernel
theorem dLw_law_344 : decode cLw_law 344 = .ok (.iconst 3, 1) := by decide +kernel
theorem dLw_law_345 : decode cLw_law 345 = .ok (.iadd, 1) := by decide +kernel
theorem dLw_law_346 : decode cLw_law 346 = .ok (.iaload, 1) := by decide +kernel
theorem dLw_law_347 : decode cLw_law 347 = .ok (.aload_n 0, 1) := by decide +kernel
theorem dLw_law_348 : decode cLw_law 348 = .ok (.iload_n 3, 1) := by decide +kernel
theorem dLw_law_349 : decode cLw_law 349 = .ok (.iconst 4, 1) := by decide +kernel
theorem dLw_law_350 : decode cLw_law 350 = .ok (.iadd, 1) := by decide +kernel
theorem dLw_law_351 : decode cLw_law 351 = .ok (.iaload, 1) := by decide +kernel
theorem dLw_law_352 : decode cLw_law 352 = .ok (.aload_n 0, 1) := by decide +kernel
theorem dLw_law_353 : decode cLw_law 353 = .ok (.iload_n 3, 1) := by decide +kernel
theorem dLw_law_354 : decode cLw_law 354 = .ok (.iconst 5, 1) := by decide +kernel
theorem dLw_law_355 : decode cLw_law 355 = .ok (.iadd, 1) := by decide +kernel
theorem dLw_law_356 : decode cLw_law 356 = .ok (.iaload, 1) := by decide +kernel
theorem dLw_law_357 : decode cLw_law 357 = .ok (.i2l, 1) := by decide +kernel
theorem dLw_law_358 : decode cLw_law 358 = .ok (.bipush 32, 2) := by decide +kernel
theorem dLw_law_360 : decode cLw_law 360 = .ok (.lshl, 1) := by decide +kernel
theorem dLw_law_361 : decode cLw_law 361 = .ok (.aload_n 0, 1) := by decide +kernel
theorem dLw_law_362 : decode cLw_law 362 = .ok (.iload_n 3, 1) := by decide +kernel
theorem dLw_law_363 : decode cLw_law 363 = .ok (.bipush 6, 2) := by decide +kernel
theorem dLw_law_365 : decode cLw_law 365 = .ok (.iadd, 1) := by decide +kernel
theorem dLw_law_366 : decode cLw_law 366 = .ok (.iaload, 1) := by decide +kernel
theorem dLw_law_367 : decode cLw_law 367 = .ok (.i2l, 1) := by decide +kernel
theorem dLw_law_368 : decode cLw_law 368 = .ok (.ldc2_w 37, 3) := by decide +kernel
theorem dLw_law_371 : decode cLw_law 371 = .ok (.land, 1) := by decide +kernel
theorem dLw_law_372 : decode cLw_law 372 = .ok (.lor, 1) := by decide +kernel
theorem dLw_law_373 : decode cLw_law 373 = .ok (.invokevirtual 39, 3) := by decide +kernel
theorem dLw_law_376 : decode cLw_law 376 = .ok (.aload_n 2, 1) := by decide +kernel
theorem dLw_law_377 : decode cLw_law 377 = .ok (.aload_n 0, 1) := by decide +kernel
theorem dLw_law_378 : decode cLw_law 378 = .ok (.iload_n 3, 1) := by decide +kernel
theorem dLw_law_379 : decode cLw_law 379 = .ok (.iconst 1, 1) := by decide +kernel
theorem dLw_law_380 : decode cLw_law 380 = .ok (.iadd, 1) := by decide +kernel
theorem dLw_law_381 : decode cLw_law 381 = .ok (.iaload, 1) := by decide +kernel
theorem dLw_law_382 : decode cLw_law 382 = .ok (.aload_n 0, 1) := by decide +kernel
theorem dLw_law_383 : decode cLw_law 383 = .ok (.iload_n 3, 1) := by decide +kernel
theorem dLw_law_384 : decode cLw_law 384 = .ok (.iconst 2, 1) := by decide +kernel
theorem dLw_law_385 : decode cLw_law 385 = .ok (.iadd, 1) := by decide +kernel
theorem dLw_law_386 : decode cLw_law 386 = .ok (.iaload, 1) := by decide +kernel
theorem dLw_law_387 : decode cLw_law 387 = .ok (.aload_n 0, 1) := by decide +kernel
theorem dLw_law_388 : decode cLw_law 388 = .ok (.iload_n 3, 1) := by decide +kernel
theorem dLw_law_389 : decode cLw_law 389 = .ok (.iconst 3, 1) := by decide +kernel
theorem dLw_law_390 : decode cLw_law 390 = .ok (.iadd, 1) := by decide +kernel
theorem dLw_law_391 : decode cLw_law 391 = .ok (.iaload, 1) := by decide +kernel
theorem dLw_law_392 : decode cLw_law 392 = .ok (.aload_n 0, 1) := by decide +kernel
theorem dLw_law_393 : decode cLw_law 393 = .ok (.iload_n 3, 1) := by decide +kernel
theorem dLw_law_394 : decode cLw_law 394 = .ok (.iconst 4, 1) := by decide +kernel
theorem dLw_law_395 : decode cLw_law 395 = .ok (.iadd, 1) := by decide +kernel
theorem dLw_law_396 : decode cLw_law 396 = .ok (.iaload, 1) := by decide +kernel
theorem dLw_law_397 : decode cLw_law 397 = .ok (.aload_n 0, 1) := by decide +kernel
theorem dLw_law_398 : decode cLw_law 398 = .ok (.iload_n 3, 1) := by decide +kernel
theorem dLw_law_399 : decode cLw_law 399 = .ok (.iconst 5, 1) := by decide +kernel
theorem dLw_law_400 : decode cLw_law 400 = .ok (.iadd, 1) := by decide +kernel
theorem dLw_law_401 : decode cLw_law 401 = .ok (.iaload, 1) := by decide +kernel
theorem dLw_law_402 : decode cLw_law 402 = .ok (.i2l, 1) := by decide +kernel
theorem dLw_law_403 : decode cLw_law 403 = .ok (.bipush 32, 2) := by decide +kernel
theorem dLw_law_405 : decode cLw_law 405 = .ok (.lshl, 1) := by decide +kernel
theorem dLw_law_406 : decode cLw_law 406 = .ok (.aload_n 0, 1) := by decide +kernel
theorem dLw_law_407 : decode cLw_law 407 = .ok (.iload_n 3, 1) := by decide +kernel
theorem dLw_law_408 : decode cLw_law 408 = .ok (.bipush 6, 2) := by decide +kernel
theorem dLw_law_410 : decode cLw_law 410 = .ok (.iadd, 1) := by decide +kernel
theorem dLw_law_411 : decode cLw_law 411 = .ok (.iaload, 1) := by decide +kernel
theorem dLw_law_412 : decode cLw_law 412 = .ok (.i2l, 1) := by decide +kernel
theorem dLw_law_413 : decode cLw_law 413 = .ok (.ldc2_w 37, 3) := by decide +kernel
theorem dLw_law_416 : decode cLw_law 416 = .ok (.land, 1) := by decide +kernel
theorem dLw_law_417 : decode cLw_law 417 = .ok (.lor, 1) := by decide +kernel
theorem dLw_law_418 : decode cLw_law 418 = .ok (.invokevirtual 43, 3) := by decide +kernel
theorem dLw_law_421 : decode cLw_law 421 = .ok (.if_icmp .eq 279, 3) := by decide +kernel
theorem dLw_law_424 : decode cLw_law 424 = .ok (.iconst 0, 1) := by decide +kernel
theorem dLw_law_425 : decode cLw_law 425 = .ok (.ireturn, 1) := by decide +kernel
theorem dLw_law_426 : decode cLw_law 426 = .ok (.aload_n 1, 1) := by decide +kernel
theorem dLw_law_427 : decode cLw_law 427 = .ok (.aload_n 0, 1) := by decide +kernel
theorem dLw_law_428 : decode cLw_law 428 = .ok (.iload_n 3, 1) := by decide +kernel
theorem dLw_law_429 : decode cLw_law 429 = .ok (.iconst 1, 1) := by decide +kernel
theorem dLw_law_430 : decode cLw_law 430 = .ok (.iadd, 1) := by decide +kernel
theorem dLw_law_431 : decode cLw_law 431 = .ok (.iaload, 1) := by decide +kernel
theorem dLw_law_432 : decode cLw_law 432 = .ok (.aload_n 0, 1) := by decide +kernel
theorem dLw_law_433 : decode cLw_law 433 = .ok (.iload_n 3, 1) := by decide +kernel
theorem dLw_law_434 : decode cLw_law 434 = .ok (.iconst 2, 1) := by decide +kernel
theorem dLw_law_435 : decode cLw_law 435 = .ok (.iadd, 1) := by decide +kernel
theorem dLw_law_436 : decode cLw_law 436 = .ok (.iaload, 1) := by decide +kernel
theorem dLw_law_437 : decode cLw_law 437 = .ok (.ifCond .eq 7, 3) := by decide +kernel
theorem dLw_law_440 : decode cLw_law 440 = .ok (.iconst 1, 1) := by decide +kernel
theorem dLw_law_441 : decode cLw_law 441 = .ok (.goto 4, 3) := by decide +kernel
theorem dLw_law_444 : decode cLw_law 444 = .ok (.iconst 0, 1) := by decide +kernel
theorem dLw_law_445 : decode cLw_law 445 = .ok (.aload_n 0, 1) := by decide +kernel
theorem dLw_law_446 : decode cLw_law 446 = .ok (.iload_n 3, 1) := by decide +kernel
theorem dLw_law_447 : decode cLw_law 447 = .ok (.iconst 3, 1) := by decide +kernel
theorem dLw_law_448 : decode cLw_law 448 = .ok (.iadd, 1) := by decide +kernel
theorem dLw_law_449 : decode cLw_law 449 = .ok (.iaload, 1) := by decide +kernel
theorem dLw_law_450 : decode cLw_law 450 = .ok (.invokevirtual 44, 3) := by decide +kernel
theorem dLw_law_453 : decode cLw_law 453 = .ok (.aload_n 2, 1) := by decide +kernel
theorem dLw_law_454 : decode cLw_law 454 = .ok (.aload_n 0, 1) := by decide +kernel
theorem dLw_law_455 : decode cLw_law 455 = .ok (.iload_n 3, 1) := by decide +kernel
theorem dLw_law_456 : decode cLw_law 456 = .ok (.iconst 1, 1) := by decide +kernel
theorem dLw_law_457 : decode cLw_law 457 = .ok (.iadd, 1) := by decide +kernel
theorem dLw_law_458 : decode cLw_law 458 = .ok (.iaload, 1) := by decide +kernel
theorem dLw_law_459 : decode cLw_law 459 = .ok (.aload_n 0, 1) := by decide +kernel
theorem dLw_law_460 : decode cLw_law 460 = .ok (.iload_n 3, 1) := by decide +kernel
theorem dLw_law_461 : decode cLw_law 461 = .ok (.iconst 2, 1) := by decide +kernel
theorem dLw_law_462 : decode cLw_law 462 = .ok (.iadd, 1) := by decide +kernel
theorem dLw_law_463 : decode cLw_law 463 = .ok (.iaload, 1) := by decide +kernel
theorem dLw_law_464 : decode cLw_law 464 = .ok (.ifCond .eq 7, 3) := by decide +kernel
theorem dLw_law_467 : decode cLw_law 467 = .ok (.iconst 1, 1) := by decide +kernel
theorem dLw_law_468 : decode cLw_law 468 = .ok (.goto 4, 3) := by decide +kernel
theorem dLw_law_471 : decode cLw_law 471 = .ok (.iconst 0, 1) := by decide +kernel
theorem dLw_law_472 : decode cLw_law 472 = .ok (.aload_n 0, 1) := by decide +kernel
theorem dLw_law_473 : decode cLw_law 473 = .ok (.iload_n 3, 1) := by decide +kernel
theorem dLw_law_474 : decode cLw_law 474 = .ok (.iconst 3, 1) := by decide +kernel
theorem dLw_law_475 : decode cLw_law 475 = .ok (.iadd, 1) := by decide +kernel
theorem dLw_law_476 : decode cLw_law 476 = .ok (.iaload, 1) := by decide +kernel
theorem dLw_law_477 : decode cLw_law 477 = .ok (.invokevirtual 48, 3) := by decide +kernel
theorem dLw_law_480 : decode cLw_law 480 = .ok (.if_icmp .eq 220, 3) := by decide +kernel
theorem dLw_law_483 : decode cLw_law 483 = .ok (.iconst 0, 1) := by decide +kernel
theorem dLw_law_484 : decode cLw_law 484 = .ok (.ireturn, 1) := by decide +kernel
theorem dLw_law_485 : decode cLw_law 485 = .ok (.aload_n 1, 1) := by decide +kernel
theorem dLw_law_486 : decode cLw_law 486 = .ok (.invokevirtual 49, 3) := by decide +kernel
theorem dLw_law_489 : decode cLw_law 489 = .ok (.aload_n 2, 1) := by decide +kernel
theorem dLw_law_490 : decode cLw_law 490 = .ok (.invokevirtual 53, 3) := by decide +kernel
theorem dLw_law_493 : decode cLw_law 493 = .ok (.if_icmp .eq 207, 3) := by decide +kernel
theorem dLw_law_496 : decode cLw_law 496 = .ok (.iconst 0, 1) := by decide +kernel
theorem dLw_law_497 : decode cLw_law 497 = .ok (.ireturn, 1) := by decide +kernel
theorem dLw_law_498 : decode cLw_law 498 = .ok (.aload_n 1, 1) := by decide +kernel
theorem dLw_law_499 : decode cLw_law 499 = .ok (.aload_n 0, 1) := by decide +kernel
theorem dLw_law_500 : decode cLw_law 500 = .ok (.iload_n 3, 1) := by decide +kernel
theorem dLw_law_501 : decode cLw_law 501 = .ok (.iconst 1, 1) := by decide +kernel
theorem dLw_law_502 : decode cLw_law 502 = .ok (.iadd, 1) := by decide +kernel
theorem dLw_law_503 : decode cLw_law 503 = .ok (.iaload, 1) := by decide +kernel
theorem dLw_law_504 : decode cLw_law 504 = .ok (.aload_n 0, 1) := by decide +kernel
theorem dLw_law_505 : decode cLw_law 505 = .ok (.iload_n 3, 1) := by decide +kernel
theorem dLw_law_506 : decode cLw_law 506 = .ok (.iconst 2, 1) := by decide +kernel
theorem dLw_law_507 : decode cLw_law 507 = .ok (.iadd, 1) := by decide +kernel
theorem dLw_law_508 : decode cLw_law 508 = .ok (.iaload, 1) := by decide +kernel
theorem dLw_law_509 : decode cLw_law 509 = .ok (.invokevirtual 54, 3) := by decide +kernel
theorem dLw_law_512 : decode cLw_law 512 = .ok (.aload_n 2, 1) := by decide +kernel
theorem dLw_law_513 : decode cLw_law 513 = .ok (.aload_n 0, 1) := by decide +kernel
theorem dLw_law_514 : decode cLw_law 514 = .ok (.iload_n 3, 1) := by decide +kernel
theorem dLw_law_515 : decode cLw_law 515 = .ok (.iconst 1, 1) := by decide +kernel
theorem dLw_law_516 : decode cLw_law 516 = .ok (.iadd, 1) := by decide +kernel
theorem dLw_law_517 : decode cLw_law 517 = .ok (.iaload, 1) := by decide +kernel
theorem dLw_law_518 : decode cLw_law 518 = .ok (.aload_n 0, 1) := by decide +kernel
theorem dLw_law_519 : decode cLw_law 519 = .ok (.iload_n 3, 1) := by decide +kernel
theorem dLw_law_520 : decode cLw_law 520 = .ok (.iconst 2, 1) := by decide +kernel
theorem dLw_law_521 : decode cLw_law 521 = .ok (.iadd, 1) := by decide +kernel
theorem dLw_law_522 : decode cLw_law 522 = .ok (.iaload, 1) := by decide +kernel
theorem dLw_law_523 : decode cLw_law 523 = .ok (.invokevirtual 58, 3) := by decide +kernel
theorem dLw_law_526 : decode cLw_law 526 = .ok (.lcmp, 1) := by decide +kernel
theorem dLw_law_527 : decode cLw_law 527 = .ok (.ifCond .eq 173, 3) := by decide +kernel
theorem dLw_law_530 : decode cLw_law 530 = .ok (.iconst 0, 1) := by decide +kernel
theorem dLw_law_531 : decode cLw_law 531 = .ok (.ireturn, 1) := by decide +kernel
theorem dLw_law_532 : decode cLw_law 532 = .ok (.aload_n 1, 1) := by decide +kernel
theorem dLw_law_533 : decode cLw_law 533 = .ok (.aload_n 0, 1) := by decide +kernel
theorem dLw_law_534 : decode cLw_law 534 = .ok (.iload_n 3, 1) := by decide +kernel
theorem dLw_law_535 : decode cLw_law 535 = .ok (.iconst 1, 1) := by decide +kernel
theorem dLw_law_536 : decode cLw_law 536 = .ok (.iadd, 1) := by decide +kernel
theorem dLw_law_537 : decode cLw_law 537 = .ok (.iaload, 1) := by decide +kernel
theorem dLw_law_538 : decode cLw_law 538 = .ok (.aload_n 0, 1) := by decide +kernel
theorem dLw_law_539 : decode cLw_law 539 = .ok (.iload_n 3, 1) := by decide +kernel
theorem dLw_law_540 : decode cLw_law 540 = .ok (.iconst 2, 1) := by decide +kernel
theorem dLw_law_541 : decode cLw_law 541 = .ok (.iadd, 1) := by decide +kernel
theorem dLw_law_542 : decode cLw_law 542 = .ok (.iaload, 1) := by decide +kernel
theorem dLw_law_543 : decode cLw_law 543 = .ok (.invokevirtual 59, 3) := by decide +kernel
theorem dLw_law_546 : decode cLw_law 546 = .ok (.aload_n 2, 1) := by decide +kernel
theorem dLw_law_547 : decode cLw_law 547 = .ok (.aload_n 0, 1) := by decide +kernel
theorem dLw_law_548 : decode cLw_law 548 = .ok (.iload_n 3, 1) := by decide +kernel
theorem dLw_law_549 : decode cLw_law 549 = .ok (.iconst 1, 1) := by decide +kernel
theorem dLw_law_550 : decode cLw_law 550 = .ok (.iadd, 1) := by decide +kernel
theorem dLw_law_551 : decode cLw_law 551 = .ok (.iaload, 1) := by decide +kernel
theorem dLw_law_552 : decode cLw_law 552 = .ok (.aload_n 0, 1) := by decide +kernel
theorem dLw_law_553 : decode cLw_law 553 = .ok (.iload_n 3, 1) := by decide +kernel
theorem dLw_law_554 : decode cLw_law 554 = .ok (.iconst 2, 1) := by decide +kernel
theorem dLw_law_555 : decode cLw_law 555 = .ok (.iadd, 1) := by decide +kernel
theorem dLw_law_556 : decode cLw_law 556 = .ok (.iaload, 1) := by decide +kernel
theorem dLw_law_557 : decode cLw_law 557 = .ok (.invokevirtual 63, 3) := by decide +kernel
theorem dLw_law_560 : decode cLw_law 560 = .ok (.if_icmp .eq 140, 3) := by decide +kernel
theorem dLw_law_563 : decode cLw_law 563 = .ok (.iconst 0, 1) := by decide +kernel
theorem dLw_law_564 : decode cLw_law 564 = .ok (.ireturn, 1) := by decide +kernel
theorem dLw_law_565 : decode cLw_law 565 = .ok (.aload_n 1, 1) := by decide +kernel
theorem dLw_law_566 : decode cLw_law 566 = .ok (.aload_n 0, 1) := by decide +kernel
theorem dLw_law_567 : decode cLw_law 567 = .ok (.iload_n 3, 1) := by decide +kernel
theorem dLw_law_568 : decode cLw_law 568 = .ok (.iconst 1, 1) := by decide +kernel
theorem dLw_law_569 : decode cLw_law 569 = .ok (.iadd, 1) := by decide +kernel
theorem dLw_law_570 : decode cLw_law 570 = .ok (.iaload, 1) := by decide +kernel
theorem dLw_law_571 : decode cLw_law 571 = .ok (.aload_n 0, 1) := by decide +kernel
theorem dLw_law_572 : decode cLw_law 572 = .ok (.iload_n 3, 1) := by decide +kernel
theorem dLw_law_573 : decode cLw_law 573 = .ok (.iconst 2, 1) := by decide +kernel
theorem dLw_law_574 : decode cLw_law 574 = .ok (.iadd, 1) := by decide +kernel
theorem dLw_law_575 : decode cLw_law 575 = .ok (.iaload, 1) := by decide +kernel
theorem dLw_law_576 : decode cLw_law 576 = .ok (.ifCond .eq 7, 3) := by decide +kernel
theorem dLw_law_579 : decode cLw_law 579 = .ok (.iconst 1, 1) := by decide +kernel
theorem dLw_law_580 : decode cLw_law 580 = .ok (.goto 4, 3) := by decide +kernel
theorem dLw_law_583 : decode cLw_law 583 = .ok (.iconst 0, 1) := by decide +kernel
theorem dLw_law_584 : decode cLw_law 584 = .ok (.aload_n 0, 1) := by decide +kernel
theorem dLw_law_585 : decode cLw_law 585 = .ok (.iload_n 3, 1) := by decide +kernel
theorem dLw_law_586 : decode cLw_law 586 = .ok (.iconst 3, 1) := by decide +kernel
theorem dLw_law_587 : decode cLw_law 587 = .ok (.iadd, 1) := by decide +kernel
theorem dLw_law_588 : decode cLw_law 588 = .ok (.iaload, 1) := by decide +kernel
theorem dLw_law_589 : decode cLw_law 589 = .ok (.invokevirtual 64, 3) := by decide +kernel
theorem dLw_law_592 : decode cLw_law 592 = .ok (.aload_n 2, 1) := by decide +kernel
theorem dLw_law_593 : decode cLw_law 593 = .ok (.aload_n 0, 1) := by decide +kernel
theorem dLw_law_594 : decode cLw_law 594 = .ok (.iload_n 3, 1) := by decide +kernel
theorem dLw_law_595 : decode cLw_law 595 = .ok (.iconst 1, 1) := by decide +kernel
theorem dLw_law_596 : decode cLw_law 596 = .ok (.iadd, 1) := by decide +kernel
theorem dLw_law_597 : decode cLw_law 597 = .ok (.iaload, 1) := by decide +kernel
theorem dLw_law_598 : decode cLw_law 598 = .ok (.aload_n 0, 1) := by decide +kernel
theorem dLw_law_599 : decode cLw_law 599 = .ok (.iload_n 3, 1) := by decide +kernel
theorem dLw_law_600 : decode cLw_law 600 = .ok (.iconst 2, 1) := by decide +kernel
theorem dLw_law_601 : decode cLw_law 601 = .ok (.iadd, 1) := by decide +kernel
theorem dLw_law_602 : decode cLw_law 602 = .ok (.iaload, 1) := by decide +kernel
theorem dLw_law_603 : decode cLw_law 603 = .ok (.ifCond .eq 7, 3) := by decide +kernel
theorem dLw_law_606 : decode cLw_law 606 = .ok (.iconst 1, 1) := by decide +kernel
theorem dLw_law_607 : decode cLw_law 607 = .ok (.goto 4, 3) := by decide +kernel
theorem dLw_law_610 : decode cLw_law 610 = .ok (.iconst 0, 1) := by decide +kernel
theorem dLw_law_611 : decode cLw_law 611 = .ok (.aload_n 0, 1) := by decide +kernel
theorem dLw_law_612 : decode cLw_law 612 = .ok (.iload_n 3, 1) := by decide +kernel
theorem dLw_law_613 : decode cLw_law 613 = .ok (.iconst 3, 1) := by decide +kernel
theorem dLw_law_614 : decode cLw_law 614 = .ok (.iadd, 1) := by decide +kernel
theorem dLw_law_615 : decode cLw_law 615 = .ok (.iaload, 1) := by decide +kernel
theorem dLw_law_616 : decode cLw_law 616 = .ok (.invokevirtual 68, 3) := by decide +kernel
theorem dLw_law_619 : decode cLw_law 619 = .ok (.if_icmp .eq 81, 3) := by decide +kernel
theorem dLw_law_622 : decode cLw_law 622 = .ok (.iconst 0, 1) := by decide +kernel
theorem dLw_law_623 : decode cLw_law 623 = .ok (.ireturn, 1) := by decide +kernel
theorem dLw_law_624 : decode cLw_law 624 = .ok (.aload_n 1, 1) := by decide +kernel
theorem dLw_law_625 : decode cLw_law 625 = .ok (.aload_n 0, 1) := by decide +kernel
theorem dLw_law_626 : decode cLw_law 626 = .ok (.iload_n 3, 1) := by decide +kernel
theorem dLw_law_627 : decode cLw_law 627 = .ok (.iconst 1, 1) := by decide +kernel
theorem dLw_law_628 : decode cLw_law 628 = .ok (.iadd, 1) := by decide +kernel
theorem dLw_law_629 : decode cLw_law 629 = .ok (.iaload, 1) := by decide +kernel
theorem dLw_law_630 : decode cLw_law 630 = .ok (.aload_n 0, 1) := by decide +kernel
theorem dLw_law_631 : decode cLw_law 631 = .ok (.iload_n 3, 1) := by decide +kernel
theorem dLw_law_632 : decode cLw_law 632 = .ok (.iconst 2, 1) := by decide +kernel
theorem dLw_law_633 : decode cLw_law 633 = .ok (.iadd, 1) := by decide +kernel
theorem dLw_law_634 : decode cLw_law 634 = .ok (.iaload, 1) := by decide +kernel
theorem dLw_law_635 : decode cLw_law 635 = .ok (.invokevirtual 69, 3) := by decide +kernel
theorem dLw_law_638 : decode cLw_law 638 = .ok (.aload_n 2, 1) := by decide +kernel
theorem dLw_law_639 : decode cLw_law 639 = .ok (.aload_n 0, 1) := by decide +kernel
theorem dLw_law_640 : decode cLw_law 640 = .ok (.iload_n 3, 1) := by decide +kernel
theorem dLw_law_641 : decode cLw_law 641 = .ok (.iconst 1, 1) := by decide +kernel
theorem dLw_law_642 : decode cLw_law 642 = .ok (.iadd, 1) := by decide +kernel
theorem dLw_law_643 : decode cLw_law 643 = .ok (.iaload, 1) := by decide +kernel
theorem dLw_law_644 : decode cLw_law 644 = .ok (.aload_n 0, 1) := by decide +kernel
theorem dLw_law_645 : decode cLw_law 645 = .ok (.iload_n 3, 1) := by decide +kernel
theorem dLw_law_646 : decode cLw_law 646 = .ok (.iconst 2, 1) := by decide +kernel
theorem dLw_law_647 : decode cLw_law 647 = .ok (.iadd, 1) := by decide +kernel
theorem dLw_law_648 : decode cLw_law 648 = .ok (.iaload, 1) := by decide +kernel
theorem dLw_law_649 : decode cLw_law 649 = .ok (.invokevirtual 72, 3) := by decide +kernel
theorem dLw_law_652 : decode cLw_law 652 = .ok (.if_icmp .eq 48, 3) := by decide +kernel
theorem dLw_law_655 : decode cLw_law 655 = .ok (.iconst 0, 1) := by decide +kernel
theorem dLw_law_656 : decode cLw_law 656 = .ok (.ireturn, 1) := by decide +kernel
theorem dLw_law_657 : decode cLw_law 657 = .ok (.aload_n 1, 1) := by decide +kernel
theorem dLw_law_658 : decode cLw_law 658 = .ok (.aload_n 0, 1) := by decide +kernel
theorem dLw_law_659 : decode cLw_law 659 = .ok (.iload_n 3, 1) := by decide +kernel
theorem dLw_law_660 : decode cLw_law 660 = .ok (.iconst 1, 1) := by decide +kernel
theorem dLw_law_661 : decode cLw_law 661 = .ok (.iadd, 1) := by decide +kernel
theorem dLw_law_662 : decode cLw_law 662 = .ok (.iaload, 1) := by decide +kernel
theorem dLw_law_663 : decode cLw_law 663 = .ok (.aload_n 0, 1) := by decide +kernel
theorem dLw_law_664 : decode cLw_law 664 = .ok (.iload_n 3, 1) := by decide +kernel
theorem dLw_law_665 : decode cLw_law 665 = .ok (.iconst 2, 1) := by decide +kernel
theorem dLw_law_666 : decode cLw_law 666 = .ok (.iadd, 1) := by decide +kernel
theorem dLw_law_667 : decode cLw_law 667 = .ok (.iaload, 1) := by decide +kernel
theorem dLw_law_668 : decode cLw_law 668 = .ok (.aload_n 0, 1) := by decide +kernel
theorem dLw_law_669 : decode cLw_law 669 = .ok (.iload_n 3, 1) := by decide +kernel
theorem dLw_law_670 : decode cLw_law 670 = .ok (.iconst 3, 1) := by decide +kernel
theorem dLw_law_671 : decode cLw_law 671 = .ok (.iadd, 1) := by decide +kernel
theorem dLw_law_672 : decode cLw_law 672 = .ok (.iaload, 1) := by decide +kernel
theorem dLw_law_673 : decode cLw_law 673 = .ok (.invokevirtual 73, 3) := by decide +kernel
theorem dLw_law_676 : decode cLw_law 676 = .ok (.aload_n 2, 1) := by decide +kernel
theorem dLw_law_677 : decode cLw_law 677 = .ok (.aload_n 0, 1) := by decide +kernel
theorem dLw_law_678 : decode cLw_law 678 = .ok (.iload_n 3, 1) := by decide +kernel
theorem dLw_law_679 : decode cLw_law 679 = .ok (.iconst 1, 1) := by decide +kernel
theorem dLw_law_680 : decode cLw_law 680 = .ok (.iadd, 1) := by decide +kernel
theorem dLw_law_681 : decode cLw_law 681 = .ok (.iaload, 1) := by decide +kernel
theorem dLw_law_682 : decode cLw_law 682 = .ok (.aload_n 0, 1) := by decide +kernel
theorem dLw_law_683 : decode cLw_law 683 = .ok (.iload_n 3, 1) := by decide +kernel
theorem dLw_law_684 : decode cLw_law 684 = .ok (.iconst 2, 1) := by decide +kernel
theorem dLw_law_685 : decode cLw_law 685 = .ok (.iadd, 1) := by decide +kernel
theorem dLw_law_686 : decode cLw_law 686 = .ok (.iaload, 1) := by decide +kernel
theorem dLw_law_687 : decode cLw_law 687 = .ok (.aload_n 0, 1) := by decide +kernel
theorem dLw_law_688 : decode cLw_law 688 = .ok (.iload_n 3, 1) := by decide +kernel
theorem dLw_law_689 : decode cLw_law 689 = .ok (.iconst 3, 1) := by decide +kernel
theorem dLw_law_690 : decode cLw_law 690 = .ok (.iadd, 1) := by decide +kernel
theorem dLw_law_691 : decode cLw_law 691 = .ok (.iaload, 1) := by decide +kernel
theorem dLw_law_692 : decode cLw_law 692 = .ok (.invokevirtual 76, 3) := by decide +kernel
theorem dLw_law_695 : decode cLw_law 695 = .ok (.if_icmp .eq 5, 3) := by decide +kernel
theorem dLw_law_698 : decode cLw_law 698 = .ok (.iconst 0, 1) := by decide +kernel
theorem dLw_law_699 : decode cLw_law 699 = .ok (.ireturn, 1) := by decide +kernel
theorem dLw_law_700 : decode cLw_law 700 = .ok (.iinc 3 7, 3) := by decide +kernel
theorem dLw_law_703 : decode cLw_law 703 = .ok (.goto (-685), 3) := by decide +kernel
theorem dLw_law_706 : decode cLw_law 706 = .ok (.iconst 1, 1) := by decide +kernel
theorem dLw_law_707 : decode cLw_law 707 = .ok (.ireturn, 1) := by decide +kernel
def fLw_step (xs : Nat → Int32) (L : Nat) (P Q : Nat) : Int32 × Ws → Option ((Int32 × Ws) ⊕ (Int32 × Ws)) :=
  fun (i3, S4) => if ((Int32.ofNat L) - (7 : Int32)) < i3 then (bz (1 : Int32)).bind fun z6 => some (.inr ((1 : Int32), S4)) else (sx xs L i3).bind fun v7 => if (v7 &&& (15 : Int32)) = 0 then (sx xs L (i3 + (1 : Int32))).bind fun v9 => (sx xs L (i3 + (2 : Int32))).bind fun v10 => (sx xs L (i3 + (3 : Int32))).bind fun v11 => (gO S4 P [7]).bind fun q14 => (fPl_attach P v9 v10 v11 S4).bind fun (v13, S12) => (sx xs L (i3 + (1 : Int32))).bind fun v15 => (sx xs L (i3 + (2 : Int32))).bind fun v16 => (sx xs L (i3 + (3 : Int32))).bind fun v17 => (gO S12 Q [8]).bind fun q20 => (fMo_attach Q v15 v16 v17 S12).bind fun (v19, S18) => if v13 = v19 then some (.inl (i3 + 7, S18)) else (bz (0 : Int32)).bind fun z21 => some (.inr ((0 : Int32), S18)) else if (v7 &&& (15 : Int32)) = 1 then (sx xs L (i3 + (1 : Int32))).bind fun v24 => (sx xs L (i3 + (2 : Int32))).bind fun v25 => (if v25 = 0 then some (0 : Int32) else some (1 : Int32)).bind fun i26 => (gO S4 P [7]).bind fun q31 => (fPl_power P v24 i26 S4).bind fun (v30, S29) => (sx xs L (i3 + (1 : Int32))).bind fun v32 => (sx xs L (i3 + (2 : Int32))).bind fun v33 => (if v33 = 0 then some (0 : Int32) else some (1 : Int32)).bind fun i34 => (gO S29 Q [8]).bind fun q39 => (fMo_power Q v32 i34 S29).bind fun (v38, S37) => if v30 = v38 then some (.inl (i3 + 7, S37)) else (bz (0 : Int32)).bind fun z40 => some (.inr ((0 : Int32), S37)) else if (v7 &&& (15 : Int32)) = 2 then (sx xs L (i3 + (1 : Int32))).bind fun v43 => (sx xs L (i3 + (2 : Int32))).bind fun v44 => (sx xs L (i3 + (3 : Int32))).bind fun v45 => (sx xs L (i3 + (4 : Int32))).bind fun v46 => (gO S4 P [7]).bind fun q49 => (fPl_process P v43 v44 v45 v46 S4).bind fun (v48, S47) => (sx xs L (i3 + (1 : Int32))).bind fun v50 => (sx xs L (i3 + (2 : Int32))).bind fun v51 => (sx xs L (i3 + (3 : Int32))).bind fun v52 => (sx xs L (i3 + (4 : Int32))).bind fun v53 => (gO S47 Q [8]).bind fun q56 => (fMo_process Q v50 v51 v52 v53 S47).bind fun (v55, S54) => if v48 = v55 then some (.inl (i3 + 7, S54)) else (bz (0 : Int32)).bind fun z57 => some (.inr ((0 : Int32), S54)) else if (v7 &&& (15 : Int32)) = 3 then (sx xs L (i3 + (1 : Int32))).bind fun v60 => (sx xs L (i3 + (2 : Int32))).bind fun v61 => (sx xs L (i3 + (3 : Int32))).bind fun v62 => (gO S4 P [7]).bind fun q65 => (fPl_cell P v60 v61 v62 S4).bind fun (v64, S63) => (sx xs L (i3 + (1 : Int32))).bind fun v66 => (sx xs L (i3 + (2 : Int32))).bind fun v67 => (sx xs L (i3 + (3 : Int32))).bind fun v68 => (gO S63 Q [8]).bind fun q71 => (fMo_cell Q v66 v67 v68 S63).bind fun (v70, S69) => if v64 = v70 then some (.inl (i3 + 7, S69)) else (bz (0 : Int32)).bind fun z72 => some (.inr ((0 : Int32), S69)) else if (v7 &&& (15 : Int32)) = 4 then (sx xs L (i3 + (1 : Int32))).bind fun v75 => (sx xs L (i3 + (2 : Int32))).bind fun v76 => (sx xs L (i3 + (3 : Int32))).bind fun v77 => (gO S4 P [7]).bind fun q80 => (fPl_point P v75 v76 v77 S4).bind fun (v79, S78) => (sx xs L (i3 + (1 : Int32))).bind fun v81 => (sx xs L (i3 + (2 : Int32))).bind fun v82 => (sx xs L (i3 + (3 : Int32))).bind fun v83 => (gO S78 Q [8]).bind fun q86 => (fMo_point Q v81 v82 v83 S78).bind fun (v85, S84) => if v79 = v85 then some (.inl (i3 + 7, S84)) else (bz (0 : Int32)).bind fun z87 => some (.inr ((0 : Int32), S84)) else if (v7 &&& (15 : Int32)) = 5 then (sx xs L (i3 + (1 : Int32))).bind fun v90 => (sx xs L (i3 + (2 : Int32))).bind fun v91 => (sx xs L (i3 + (3 : Int32))).bind fun v92 => (sx xs L (i3 + (4 : Int32))).bind fun v93 => (sx xs L (i3 + (5 : Int32))).bind fun v94 => (sx xs L (i3 + (6 : Int32))).bind fun v95 => (gO S4 P [7]).bind fun q98 => (fPl_request P v90 v91 v92 v93 ((v94.toInt64 <<< ((32 : Int32).toInt64 &&& 63)) ||| (v95.toInt64 &&& (4294967295 : Int64))) S4).bind fun (v97, S96) => (sx xs L (i3 + (1 : Int32))).bind fun v99 => (sx xs L (i3 + (2 : Int32))).bind fun v100 => (sx xs L (i3 + (3 : Int32))).bind fun v101 => (sx xs L (i3 + (4 : Int32))).bind fun v102 => (sx xs L (i3 + (5 : Int32))).bind fun v103 => (sx xs L (i3 + (6 : Int32))).bind fun v104 => (gO S96 Q [8]).bind fun q107 => (fMo_request Q v99 v100 v101 v102 ((v103.toInt64 <<< ((32 : Int32).toInt64 &&& 63)) ||| (v104.toInt64 &&& (4294967295 : Int64))) S96).bind fun (v106, S105) => if v97 = v106 then some (.inl (i3 + 7, S105)) else (bz (0 : Int32)).bind fun z108 => some (.inr ((0 : Int32), S105)) else if (v7 &&& (15 : Int32)) = 6 then (sx xs L (i3 + (1 : Int32))).bind fun v111 => (sx xs L (i3 + (2 : Int32))).bind fun v112 => (if v112 = 0 then some (0 : Int32) else some (1 : Int32)).bind fun i113 => (sx xs L (i3 + (3 : Int32))).bind fun v116 => (gO S4 P [7]).bind fun q119 => (fPl_fault P v111 i113 v116 S4).bind fun (v118, S117) => (sx xs L (i3 + (1 : Int32))).bind fun v120 => (sx xs L (i3 + (2 : Int32))).bind fun v121 => (if v121 = 0 then some (0 : Int32) else some (1 : Int32)).bind fun i122 => (sx xs L (i3 + (3 : Int32))).bind fun v125 => (gO S117 Q [8]).bind fun q128 => (fMo_fault Q v120 i122 v125 S117).bind fun (v127, S126) => if v118 = v127 then some (.inl (i3 + 7, S126)) else (bz (0 : Int32)).bind fun z129 => some (.inr ((0 : Int32), S126)) else if (v7 &&& (15 : Int32)) = 7 then (gO S4 P [7]).bind fun q134 => (fPl_tick P S4).bind fun (v133, S132) => (gO S132 Q [8]).bind fun q137 => (fMo_tick Q S132).bind fun (v136, S135) => if v133 = v136 then some (.inl (i3 + 7, S135)) else (bz (0 : Int32)).bind fun z138 => some (.inr ((0 : Int32), S135)) else if (v7 &&& (15 : Int32)) = 8 then (sx xs L (i3 + (1 : Int32))).bind fun v141 => (sx xs L (i3 + (2 : Int32))).bind fun v142 => (gO S4 P [7]).bind fun q145 => (fPl_reply P v141 v142 S4).bind fun (u144, S143) => (sx xs L (i3 + (1 : Int32))).bind fun v146 => (sx xs L (i3 + (2 : Int32))).bind fun v147 => (gO S143 Q [8]).bind fun q150 => (fMo_reply Q v146 v147 S143).bind fun (u149, S148) => if (lg_cmp u144 u149) = 0 then some (.inl (i3 + 7, S148)) else (bz (0 : Int32)).bind fun z151 => some (.inr ((0 : Int32), S148)) else if (v7 &&& (15 : Int32)) = 9 then (sx xs L (i3 + (1 : Int32))).bind fun v154 => (sx xs L (i3 + (2 : Int32))).bind fun v155 => (gO S4 P [7]).bind fun q158 => (fPl_line P v154 v155 S4).bind fun (v157, S156) => (sx xs L (i3 + (1 : Int32))).bind fun v159 => (sx xs L (i3 + (2 : Int32))).bind fun v160 => (gO S156 Q [8]).bind fun q163 => (fMo_line Q v159 v160 S156).bind fun (v162, S161) => if v157 = v162 then some (.inl (i3 + 7, S161)) else (bz (0 : Int32)).bind fun z164 => some (.inr ((0 : Int32), S161)) else if (v7 &&& (15 : Int32)) = 10 then (sx xs L (i3 + (1 : Int32))).bind fun v167 => (sx xs L (i3 + (2 : Int32))).bind fun v168 => (if v168 = 0 then some (0 : Int32) else some (1 : Int32)).bind fun i169 => (sx xs L (i3 + (3 : Int32))).bind fun v172 => (gO S4 P [7]).bind fun q175 => (fPl_wire P v167 i169 v172 S4).bind fun (v174, S173) => (sx xs L (i3 + (1 : Int32))).bind fun v176 => (sx xs L (i3 + (2 : Int32))).bind fun v177 => (if v177 = 0 then some (0 : Int32) else some (1 : Int32)).bind fun i178 => (sx xs L (i3 + (3 : Int32))).bind fun v181 => (gO S173 Q [8]).bind fun q184 => (fMo_wire Q v176 i178 v181 S173).bind fun (v183, S182) => if v174 = v183 then some (.inl (i3 + 7, S182)) else (bz (0 : Int32)).bind fun z185 => some (.inr ((0 : Int32), S182)) else if (v7 &&& (15 : Int32)) = 11 then (sx xs L (i3 + (1 : Int32))).bind fun v188 => (sx xs L (i3 + (2 : Int32))).bind fun v189 => (gO S4 P [7]).bind fun q192 => (fPl_sample P v188 v189 S4).bind fun (v191, S190) => (sx xs L (i3 + (1 : Int32))).bind fun v193 => (sx xs L (i3 + (2 : Int32))).bind fun v194 => (gO S190 Q [8]).bind fun q197 => (fMo_sample Q v193 v194 S190).bind fun (v196, S195) => if v191 = v196 then some (.inl (i3 + 7, S195)) else (bz (0 : Int32)).bind fun z198 => some (.inr ((0 : Int32), S195)) else if (v7 &&& (15 : Int32)) = 12 then (sx xs L (i3 + (1 : Int32))).bind fun v201 => (sx xs L (i3 + (2 : Int32))).bind fun v202 => (sx xs L (i3 + (3 : Int32))).bind fun v203 => (gO S4 P [7]).bind fun q206 => (fPl_samples P v201 v202 v203 S4).bind fun (v205, S204) => (sx xs L (i3 + (1 : Int32))).bind fun v207 => (sx xs L (i3 + (2 : Int32))).bind fun v208 => (sx xs L (i3 + (3 : Int32))).bind fun v209 => (gO S204 Q [8]).bind fun q212 => (fMo_samples Q v207 v208 v209 S204).bind fun (v211, S210) => if v205 = v211 then some (.inl (i3 + 7, S210)) else (bz (0 : Int32)).bind fun z213 => some (.inr ((0 : Int32), S210)) else some (.inl (i3 + 7, S4))
def fLw_law (xs : Nat → Int32) (L : Nat) (S : Ws) : Option (Int32 × Ws) :=
  (fPl_init S.1 (S.add (.inr (7, [.null, .null, .null, .null, .null, .int 0, .int 0, .int 0])))).bind fun S1 => (fMo_init S1.1 (S1.add (.inr (8, [.int 0, .null, .null, .null, .null, .null, .null, .null, .null, .null, .int 0, .null, .null, .null, .null, .null, .null, .null, .null, .int 0, .null, .null, .null, .null, .null, .int 0, .null, .null, .null, .null, .null, .null, .null, .null, .null, .null, .null, .null, .null, .int 0, .long 0])))).bind fun S2 => lp (fLw_step xs L S.1 S1.1) 1000 ((0 : Int32), S2)
set_option maxRecDepth 100000 in
set_option maxHeartbeats 4000000 in
theorem law_walk {p : Program} {e : Env} {s : State} {m : MethodId} {args : Array Value} {below : List Frame} {meth : Method} {c : Code} (l : Launch) (D : va_G) (tc : Nat → ClassId) {b b0 L : Nat} {xs : Nat → Int32} {S Sz : Ws} (h : fLw_law xs L S = some (1, Sz)) (hargs : args = #[Value.ref b0]) (hbe : s.heap.size ≤ b) (hx : p.tables.exec = Jvm.exec) (hb : c.code = cLw_law) (hr : meth.sig.returnType = ret) (hml : c.maxLocals = 4) (hown : s.vm.findClass "SerialPlantLaw" = some m.cls) (hts : ∀ w ∈ lwG, w.before args s = true) (hX : va_X b0 L xs s s.heap ∧ b0 < b) (hlocks : meth.locks = false) {H : Heap} {locs : List Loc} {ls : Array Slot} (hl : lv_has ls 4 [(0, .ref b0)]) (hW : Wd D vwCl (hTy tc) b S s H locs) : W p l e room_1 s m args below meth c H locs 0 0 (lw_Z below args s) (F0 m 0 ls []) := by
  unfold fLw_law at h
  refine hq_new (ci := 7) (fs := [.null, .null, .null, .null, .null, .int 0, .int 0, .int 0]) (C := "SerialPlant") (T := TPl) (N := 8) (ce := 1) (sl := 8) hx hb hts inPl tyPl tyPl_ok hown (hts _ w_11) (hts _ w_12) (hts _ w_1) hW rfl dfPl rfl rfl (Nat.le_of_ble_eq_true rfl) (Nat.le_of_ble_eq_true rfl) dLw_law_0 (fun H hW => ?_)
  refine lv_dup hx hb dLw_law_3 rfl ?_
  replace h := ob h; obtain ⟨S1, eS1, h⟩ := h
  refine hq_callv (ce := 56) (sl := 678) (va_runI (As := []) (rest := [.ref S.1]) ⟨hx, hb, hml, hown, hts⟩ (kPl_init l D tc b S.1 (S.add (.inr (7, [.null, .null, .null, .null, .null, .int 0, .int 0, .int 0]))) _ eS1) (cwI 0 hts G0_Pl_init rfl rfl rfl (hts _ w_1) (hts _ w_13) (hts _ w_14) rfl hd_Pl_init_I ⟨Nat.le_of_ble_eq_true rfl, Nat.le_of_ble_eq_true rfl⟩) (hq_preS hW) rfl rfl hl.1 rfl (lv_room (by first | exact Nat.le_of_ble_eq_true rfl | (simp only [List.map, rf_cat]; exact Nat.le_of_ble_eq_true rfl))) dLw_law_4 ⟨Nat.le_of_ble_eq_true rfl, Nat.le_of_ble_eq_true rfl⟩) hW rfl rfl (fun H locs hW => ?_)
  refine lv_astore_n (lv' := [(1, .ref S.1), (0, .ref b0)]) hx hb dLw_law_7 rfl hl (Nat.le_of_ble_eq_true rfl) (by first | rfl | (simp [List.filter, rf_cat] <;> rfl)) (fun ls hl => ?_)
  refine hq_new (ci := 8) (fs := [.int 0, .null, .null, .null, .null, .null, .null, .null, .null, .null, .int 0, .null, .null, .null, .null, .null, .null, .null, .null, .int 0, .null, .null, .null, .null, .null, .int 0, .null, .null, .null, .null, .null, .null, .null, .null, .null, .null, .null, .null, .null, .int 0, .long 0]) (C := "SerialPlantModel") (T := TMo) (N := 41) (ce := 57) (sl := 719) hx hb hts inMo tyMo tyMo_ok hown (hts _ w_596) (hts _ w_597) (hts _ w_7) hW rfl dfMo rfl rfl (Nat.le_of_ble_eq_true rfl) (Nat.le_of_ble_eq_true rfl) dLw_law_8 (fun H hW => ?_)
  refine lv_dup hx hb dLw_law_11 rfl ?_
  replace h := ob h; obtain ⟨S2, eS2, h⟩ := h
  refine hq_callv (ce := 92) (sl := 1880) (va_runI (As := []) (rest := [.ref S1.1]) ⟨hx, hb, hml, hown, hts⟩ (kMo_init l D tc b S1.1 (S1.add (.inr (8, [.int 0, .null, .null, .null, .null, .null, .null, .null, .null, .null, .int 0, .null, .null, .null, .null, .null, .null, .null, .null, .int 0, .null, .null, .null, .null, .null, .int 0, .null, .null, .null, .null, .null, .null, .null, .null, .null, .null, .null, .null, .null, .int 0, .long 0]))) _ eS2) (cwI 0 hts G0_Mo_init rfl rfl rfl (hts _ w_7) (hts _ w_598) (hts _ w_599) rfl hd_Mo_init_I ⟨Nat.le_of_ble_eq_true rfl, Nat.le_of_ble_eq_true rfl⟩) (hq_preS hW) rfl rfl hl.1 rfl (lv_room (by first | exact Nat.le_of_ble_eq_true rfl | (simp only [List.map, rf_cat]; exact Nat.le_of_ble_eq_true rfl))) dLw_law_12 ⟨Nat.le_of_ble_eq_true rfl, Nat.le_of_ble_eq_true rfl⟩) hW rfl rfl (fun H locs hW => ?_)
  refine lv_astore_n (lv' := [(2, .ref S1.1), (1, .ref S.1), (0, .ref b0)]) hx hb dLw_law_15 rfl hl (Nat.le_of_ble_eq_true rfl) (by first | rfl | (simp [List.filter, rf_cat] <;> rfl)) (fun ls hl => ?_)
  refine lv_iconst hx hb dLw_law_16 (v := (0 : Int32)) rfl ?_
  refine lv_istore_n (lv' := [(3, .int (0 : Int32)), (2, .ref S1.1), (1, .ref S.1), (0, .ref b0)]) hx hb dLw_law_17 rfl hl (Nat.le_of_ble_eq_true rfl) (by first | rfl | (simp [List.filter, rf_cat] <;> rfl)) (fun ls hl => ?_)
  refine lp_indN (P := fun n q' => ∀ (cb sb : Nat), cb + 2 * n ≤ 500000 → sb + 20 * n ≤ 7000000 → ∀ (H : Heap) (locs : List Loc) (ls : Array Slot), lv_has ls 4 [(0, .ref b0), (1, .ref S.1), (2, .ref S1.1), (3, .int q'.1)] → Wd D vwCl (hTy tc) b q'.2 s H locs → W p l e room_1 s m args below meth c H locs cb sb (lw_Z below args s) (F0 m 18 ls [])) (Q := fun y => y = (1, Sz)) (fun n q' x5 h hin hex => ?_) rfl _ _ h 92 1880 (by decide) (by decide) _ _ _ (lv_sub hl [3, 2, 1, 0] rfl) hW
  obtain ⟨i3, S4⟩ := q'
  intro cb sb hcb hsb H locs ls hl hW
  unfold fLw_step at h
  refine lv_iload_n hx hb dLw_law_18 rfl (lv_at hl 3 rfl) ?_
  refine lv_aload_n hx hb dLw_law_19 rfl (lv_at hl 0 rfl) ?_
  refine hq_slen hx hb hX hW dLw_law_20 ?_
  refine lv_bipush hx hb dLw_law_21 (v := (7 : Int32)) rfl ?_
  refine lv_isub hx hb dLw_law_23 ?_
  refine lv_icmp_gt hx hb dLw_law_24 (tgt := 706) rfl (fun hc215 => ?_) (fun hc215 => ?_)
  · replace h := if_t hc215 h
    refine lv_iconst hx hb dLw_law_706 (v := (1 : Int32)) rfl ?_
    replace h := ob h; obtain ⟨z6, ez6, h⟩ := h
    exact hq_lwret hargs hbe hx hb hr hlocks (bz_some ez6).2 (congrArg some (hex _ (Option.some.inj h).symm)) (by omega) (by omega) hW dLw_law_707
  · replace h := if_f hc215 h
    refine lv_aload_n hx hb dLw_law_27 rfl (lv_at hl 0 rfl) ?_
    refine lv_iload_n hx hb dLw_law_28 rfl (lv_at hl 3 rfl) ?_
    replace h := ob h; obtain ⟨v7, ev7, h⟩ := h
    refine hq_sld hx hb hX hW ev7 dLw_law_29 ?_
    refine lv_bipush hx hb dLw_law_30 (v := (15 : Int32)) rfl ?_
    refine lv_iand hx hb dLw_law_32 ?_
    by_cases hc8 : (v7 &&& (15 : Int32)) = 0
    · replace h := if_t hc8 h
      refine lv_tableIn hx hb dLw_law_33 (tgt := 100) (by rw [hc8]; decide) (by rw [hc8]; decide) (by rw [hc8] <;> rfl) rfl ?_
      refine lv_aload_n hx hb dLw_law_100 rfl (lv_at hl 1 rfl) ?_
      refine lv_aload_n hx hb dLw_law_101 rfl (lv_at hl 0 rfl) ?_
      refine lv_iload_n hx hb dLw_law_102 rfl (lv_at hl 3 rfl) ?_
      refine lv_iconst hx hb dLw_law_103 (v := (1 : Int32)) rfl ?_
      refine lv_iadd hx hb dLw_law_104 ?_
      replace h := ob h; obtain ⟨v9, ev9, h⟩ := h
      refine hq_sld hx hb hX hW ev9 dLw_law_105 ?_
      refine lv_aload_n hx hb dLw_law_106 rfl (lv_at hl 0 rfl) ?_
      refine lv_iload_n hx hb dLw_law_107 rfl (lv_at hl 3 rfl) ?_
      refine lv_iconst hx hb dLw_law_108 (v := (2 : Int32)) rfl ?_
      refine lv_iadd hx hb dLw_law_109 ?_
      replace h := ob h; obtain ⟨v10, ev10, h⟩ := h
      refine hq_sld hx hb hX hW ev10 dLw_law_110 ?_
      refine lv_aload_n hx hb dLw_law_111 rfl (lv_at hl 0 rfl) ?_
      refine lv_iload_n hx hb dLw_law_112 rfl (lv_at hl 3 rfl) ?_
      refine lv_iconst hx hb dLw_law_113 (v := (3 : Int32)) rfl ?_
      refine lv_iadd hx hb dLw_law_114 ?_
      replace h := ob h; obtain ⟨v11, ev11, h⟩ := h
      refine hq_sld hx hb hX hW ev11 dLw_law_115 ?_
      replace h := ob h; obtain ⟨q14, eq14, h⟩ := h
      replace h := ob h; obtain ⟨⟨v13, S12⟩, eS12, h⟩ := h
      refine hq_calli (ce := cb) (sl := sb) (va_runV (As := [.int v9, .int v10, .int v11]) (rest := []) ⟨hx, hb, hml, hown, hts⟩ (kPl_attach l D tc b S.1 v9 v10 v11 S4 _ _ eS12) (cwV 3 hts GV_Lw_13_Pl rfl rfl rfl hd_Pl_attach_V ⟨Nat.le_of_ble_eq_true rfl, Nat.le_of_ble_eq_true rfl⟩) (hq_preV1 hW eq14 rfl rfl) rfl rfl hl.1 rfl (lv_room (by first | exact Nat.le_of_ble_eq_true rfl | (simp only [List.map, rf_cat]; exact Nat.le_of_ble_eq_true rfl))) dLw_law_116 ⟨(by show _ ≤ 600000; omega), (by show _ ≤ 7302250; omega)⟩) hW rfl rfl (fun H locs hW => ?_)
      refine lv_aload_n hx hb dLw_law_119 rfl (lv_at hl 2 rfl) ?_
      refine lv_aload_n hx hb dLw_law_120 rfl (lv_at hl 0 rfl) ?_
      refine lv_iload_n hx hb dLw_law_121 rfl (lv_at hl 3 rfl) ?_
      refine lv_iconst hx hb dLw_law_122 (v := (1 : Int32)) rfl ?_
      refine lv_iadd hx hb dLw_law_123 ?_
      replace h := ob h; obtain ⟨v15, ev15, h⟩ := h
      refine hq_sld hx hb hX hW ev15 dLw_law_124 ?_
      refine lv_aload_n hx hb dLw_law_125 rfl (lv_at hl 0 rfl) ?_
      refine lv_iload_n hx hb dLw_law_126 rfl (lv_at hl 3 rfl) ?_
      refine lv_iconst hx hb dLw_law_127 (v := (2 : Int32)) rfl ?_
      refine lv_iadd hx hb dLw_law_128 ?_
      replace h := ob h; obtain ⟨v16, ev16, h⟩ := h
      refine hq_sld hx hb hX hW ev16 dLw_law_129 ?_
      refine lv_aload_n hx hb dLw_law_130 rfl (lv_at hl 0 rfl) ?_
      refine lv_iload_n hx hb dLw_law_131 rfl (lv_at hl 3 rfl) ?_
      refine lv_iconst hx hb dLw_law_132 (v := (3 : Int32)) rfl ?_
      refine lv_iadd hx hb dLw_law_133 ?_
      replace h := ob h; obtain ⟨v17, ev17, h⟩ := h
      refine hq_sld hx hb hX hW ev17 dLw_law_134 ?_
      replace h := ob h; obtain ⟨q20, eq20, h⟩ := h
      replace h := ob h; obtain ⟨⟨v19, S18⟩, eS18, h⟩ := h
      refine hq_calli (ce := cb) (sl := sb) (va_runV (As := [.int v15, .int v16, .int v17]) (rest := [.int v13]) ⟨hx, hb, hml, hown, hts⟩ (kMo_attach l D tc b S1.1 v15 v16 v17 S12 _ _ eS18) (cwV 3 hts GV_Lw_17_Mo rfl rfl rfl hd_Mo_attach_V ⟨Nat.le_of_ble_eq_true rfl, Nat.le_of_ble_eq_true rfl⟩) (hq_preV1 hW eq20 rfl rfl) rfl rfl hl.1 rfl (lv_room (by first | exact Nat.le_of_ble_eq_true rfl | (simp only [List.map, rf_cat]; exact Nat.le_of_ble_eq_true rfl))) dLw_law_135 ⟨(by show _ ≤ 600000; omega), (by show _ ≤ 7302250; omega)⟩) hW rfl rfl (fun H locs hW => ?_)
      refine lv_icmp_eq hx hb dLw_law_138 (tgt := 700) rfl (fun hc22 => ?_) (fun hc22 => ?_)
      · replace h := if_t hc22 h
        refine lv_iinc (k := 3) (v := i3 + 7) (lv' := [(3, .int (i3 + 7)), (0, .ref b0), (1, .ref S.1), (2, .ref S1.1)]) hx hb dLw_law_700 hl rfl rfl (Nat.le_of_ble_eq_true rfl) (by first | rfl | (simp [List.filter, rf_cat] <;> rfl)) (fun ls hl => ?_)
        refine lv_goto hx hb dLw_law_703 (tgt := 18) rfl ?_
        exact hin _ (Option.some.inj h).symm cb sb (by omega) (by omega) _ _ _ (lv_sub hl [1, 2, 3, 0] rfl) hW
      · replace h := if_f hc22 h
        refine lv_iconst hx hb dLw_law_141 (v := (0 : Int32)) rfl ?_
        replace h := ob h; obtain ⟨z21, ez21, h⟩ := h
        exact hq_lwret hargs hbe hx hb hr hlocks (bz_some ez21).2 (congrArg some (hex _ (Option.some.inj h).symm)) (by omega) (by omega) hW dLw_law_142
    · replace h := if_f hc8 h
      have hc8n0 := hc8
      by_cases hc23 : (v7 &&& (15 : Int32)) = 1
      · replace h := if_t hc23 h
        refine lv_tableIn hx hb dLw_law_33 (tgt := 143) (by rw [hc23]; decide) (by rw [hc23]; decide) (by rw [hc23] <;> rfl) rfl ?_
        refine lv_aload_n hx hb dLw_law_143 rfl (lv_at hl 1 rfl) ?_
        refine lv_aload_n hx hb dLw_law_144 rfl (lv_at hl 0 rfl) ?_
        refine lv_iload_n hx hb dLw_law_145 rfl (lv_at hl 3 rfl) ?_
        refine lv_iconst hx hb dLw_law_146 (v := (1 : Int32)) rfl ?_
        refine lv_iadd hx hb dLw_law_147 ?_
        replace h := ob h; obtain ⟨v24, ev24, h⟩ := h
        refine hq_sld hx hb hX hW ev24 dLw_law_148 ?_
        refine lv_aload_n hx hb dLw_law_149 rfl (lv_at hl 0 rfl) ?_
        refine lv_iload_n hx hb dLw_law_150 rfl (lv_at hl 3 rfl) ?_
        refine lv_iconst hx hb dLw_law_151 (v := (2 : Int32)) rfl ?_
        refine lv_iadd hx hb dLw_law_152 ?_
        replace h := ob h; obtain ⟨v25, ev25, h⟩ := h
        refine hq_sld hx hb hX hW ev25 dLw_law_153 ?_
        replace h := ob h; obtain ⟨q27, e162, h⟩ := h
        have hJ162 : ∀ q', q' = q27 → ∀ (H : Heap) (locs : List Loc) (ls : Array Slot), lv_has ls 4 [(0, .ref b0), (1, .ref S.1), (2, .ref S1.1), (3, .int i3)] → Wd D vwCl (hTy tc) b S4 s H locs → W p l e room_1 s m args below meth c H locs cb sb (lw_Z below args s) (F0 m 162 ls [.int q', .int v24, .ref S.1]) := by
          intro i26 hq'; subst hq'
          intro H locs ls hl hW
          replace h := ob h; obtain ⟨q31, eq31, h⟩ := h
          replace h := ob h; obtain ⟨⟨v30, S29⟩, eS29, h⟩ := h
          refine hq_calli (ce := cb) (sl := sb) (va_runV (As := [.int v24, .int i26]) (rest := []) ⟨hx, hb, hml, hown, hts⟩ (kPl_power l D tc b S.1 v24 i26 S4 _ _ eS29) (cwV 2 hts GV_Lw_18_Pl rfl rfl rfl hd_Pl_power_V ⟨Nat.le_of_ble_eq_true rfl, Nat.le_of_ble_eq_true rfl⟩) (hq_preV1 hW eq31 rfl rfl) rfl rfl hl.1 rfl (lv_room (by first | exact Nat.le_of_ble_eq_true rfl | (simp only [List.map, rf_cat]; exact Nat.le_of_ble_eq_true rfl))) dLw_law_162 ⟨(by show _ ≤ 600000; omega), (by show _ ≤ 7302250; omega)⟩) hW rfl rfl (fun H locs hW => ?_)
          refine lv_aload_n hx hb dLw_law_165 rfl (lv_at hl 2 rfl) ?_
          refine lv_aload_n hx hb dLw_law_166 rfl (lv_at hl 0 rfl) ?_
          refine lv_iload_n hx hb dLw_law_167 rfl (lv_at hl 3 rfl) ?_
          refine lv_iconst hx hb dLw_law_168 (v := (1 : Int32)) rfl ?_
          refine lv_iadd hx hb dLw_law_169 ?_
          replace h := ob h; obtain ⟨v32, ev32, h⟩ := h
          refine hq_sld hx hb hX hW ev32 dLw_law_170 ?_
          refine lv_aload_n hx hb dLw_law_171 rfl (lv_at hl 0 rfl) ?_
          refine lv_iload_n hx hb dLw_law_172 rfl (lv_at hl 3 rfl) ?_
          refine lv_iconst hx hb dLw_law_173 (v := (2 : Int32)) rfl ?_
          refine lv_iadd hx hb dLw_law_174 ?_
          replace h := ob h; obtain ⟨v33, ev33, h⟩ := h
          refine hq_sld hx hb hX hW ev33 dLw_law_175 ?_
          replace h := ob h; obtain ⟨q35, e184, h⟩ := h
          have hJ184 : ∀ q', q' = q35 → ∀ (H : Heap) (locs : List Loc) (ls : Array Slot), lv_has ls 4 [(0, .ref b0), (1, .ref S.1), (2, .ref S1.1), (3, .int i3)] → Wd D vwCl (hTy tc) b S29 s H locs → W p l e room_1 s m args below meth c H locs cb sb (lw_Z below args s) (F0 m 184 ls [.int q', .int v32, .ref S1.1, .int v30]) := by
            intro i34 hq'; subst hq'
            intro H locs ls hl hW
            replace h := ob h; obtain ⟨q39, eq39, h⟩ := h
            replace h := ob h; obtain ⟨⟨v38, S37⟩, eS37, h⟩ := h
            refine hq_calli (ce := cb) (sl := sb) (va_runV (As := [.int v32, .int i34]) (rest := [.int v30]) ⟨hx, hb, hml, hown, hts⟩ (kMo_power l D tc b S1.1 v32 i34 S29 _ _ eS37) (cwV 2 hts GV_Lw_22_Mo rfl rfl rfl hd_Mo_power_V ⟨Nat.le_of_ble_eq_true rfl, Nat.le_of_ble_eq_true rfl⟩) (hq_preV1 hW eq39 rfl rfl) rfl rfl hl.1 rfl (lv_room (by first | exact Nat.le_of_ble_eq_true rfl | (simp only [List.map, rf_cat]; exact Nat.le_of_ble_eq_true rfl))) dLw_law_184 ⟨(by show _ ≤ 600000; omega), (by show _ ≤ 7302250; omega)⟩) hW rfl rfl (fun H locs hW => ?_)
            refine lv_icmp_eq hx hb dLw_law_187 (tgt := 700) rfl (fun hc41 => ?_) (fun hc41 => ?_)
            · replace h := if_t hc41 h
              refine lv_iinc (k := 3) (v := i3 + 7) (lv' := [(3, .int (i3 + 7)), (0, .ref b0), (1, .ref S.1), (2, .ref S1.1)]) hx hb dLw_law_700 hl rfl rfl (Nat.le_of_ble_eq_true rfl) (by first | rfl | (simp [List.filter, rf_cat] <;> rfl)) (fun ls hl => ?_)
              refine lv_goto hx hb dLw_law_703 (tgt := 18) rfl ?_
              exact hin _ (Option.some.inj h).symm cb sb (by omega) (by omega) _ _ _ (lv_sub hl [1, 2, 3, 0] rfl) hW
            · replace h := if_f hc41 h
              refine lv_iconst hx hb dLw_law_190 (v := (0 : Int32)) rfl ?_
              replace h := ob h; obtain ⟨z40, ez40, h⟩ := h
              exact hq_lwret hargs hbe hx hb hr hlocks (bz_some ez40).2 (congrArg some (hex _ (Option.some.inj h).symm)) (by omega) (by omega) hW dLw_law_191
          clear h; have h := e184; clear e184
          refine lv_if_eq hx hb dLw_law_176 (tgt := 183) rfl (fun hc36 => ?_) (fun hc36 => ?_)
          · replace h := if_t hc36 h
            refine lv_iconst hx hb dLw_law_183 (v := (0 : Int32)) rfl ?_
            exact hJ184 _ (Option.some.inj h) _ _ _ (lv_sub hl [0, 1, 2, 3] rfl) hW
          · replace h := if_f hc36 h
            refine lv_iconst hx hb dLw_law_179 (v := (1 : Int32)) rfl ?_
            refine lv_goto hx hb dLw_law_180 (tgt := 184) rfl ?_
            exact hJ184 _ (Option.some.inj h) _ _ _ (lv_sub hl [0, 1, 2, 3] rfl) hW
        clear h; have h := e162; clear e162
        refine lv_if_eq hx hb dLw_law_154 (tgt := 161) rfl (fun hc28 => ?_) (fun hc28 => ?_)
        · replace h := if_t hc28 h
          refine lv_iconst hx hb dLw_law_161 (v := (0 : Int32)) rfl ?_
          exact hJ162 _ (Option.some.inj h) _ _ _ (lv_sub hl [0, 1, 2, 3] rfl) hW
        · replace h := if_f hc28 h
          refine lv_iconst hx hb dLw_law_157 (v := (1 : Int32)) rfl ?_
          refine lv_goto hx hb dLw_law_158 (tgt := 162) rfl ?_
          exact hJ162 _ (Option.some.inj h) _ _ _ (lv_sub hl [0, 1, 2, 3] rfl) hW
      · replace h := if_f hc23 h
        have hc23n0 := hc23
        by_cases hc42 : (v7 &&& (15 : Int32)) = 2
        · replace h := if_t hc42 h
          refine lv_tableIn hx hb dLw_law_33 (tgt := 192) (by rw [hc42]; decide) (by rw [hc42]; decide) (by rw [hc42] <;> rfl) rfl ?_
          refine lv_aload_n hx hb dLw_law_192 rfl (lv_at hl 1 rfl) ?_
          refine lv_aload_n hx hb dLw_law_193 rfl (lv_at hl 0 rfl) ?_
          refine lv_iload_n hx hb dLw_law_194 rfl (lv_at hl 3 rfl) ?_
          refine lv_iconst hx hb dLw_law_195 (v := (1 : Int32)) rfl ?_
          refine lv_iadd hx hb dLw_law_196 ?_
          replace h := ob h; obtain ⟨v43, ev43, h⟩ := h
          refine hq_sld hx hb hX hW ev43 dLw_law_197 ?_
          refine lv_aload_n hx hb dLw_law_198 rfl (lv_at hl 0 rfl) ?_
          refine lv_iload_n hx hb dLw_law_199 rfl (lv_at hl 3 rfl) ?_
          refine lv_iconst hx hb dLw_law_200 (v := (2 : Int32)) rfl ?_
          refine lv_iadd hx hb dLw_law_201 ?_
          replace h := ob h; obtain ⟨v44, ev44, h⟩ := h
          refine hq_sld hx hb hX hW ev44 dLw_law_202 ?_
          refine lv_aload_n hx hb dLw_law_203 rfl (lv_at hl 0 rfl) ?_
          refine lv_iload_n hx hb dLw_law_204 rfl (lv_at hl 3 rfl) ?_
          refine lv_iconst hx hb dLw_law_205 (v := (3 : Int32)) rfl ?_
          refine lv_iadd hx hb dLw_law_206 ?_
          replace h := ob h; obtain ⟨v45, ev45, h⟩ := h
          refine hq_sld hx hb hX hW ev45 dLw_law_207 ?_
          refine lv_aload_n hx hb dLw_law_208 rfl (lv_at hl 0 rfl) ?_
          refine lv_iload_n hx hb dLw_law_209 rfl (lv_at hl 3 rfl) ?_
          refine lv_iconst hx hb dLw_law_210 (v := (4 : Int32)) rfl ?_
          refine lv_iadd hx hb dLw_law_211 ?_
          replace h := ob h; obtain ⟨v46, ev46, h⟩ := h
          refine hq_sld hx hb hX hW ev46 dLw_law_212 ?_
          replace h := ob h; obtain ⟨q49, eq49, h⟩ := h
          replace h := ob h; obtain ⟨⟨v48, S47⟩, eS47, h⟩ := h
          refine hq_calli (ce := cb) (sl := sb) (va_runV (As := [.int v43, .int v44, .int v45, .int v46]) (rest := []) ⟨hx, hb, hml, hown, hts⟩ (kPl_process l D tc b S.1 v43 v44 v45 v46 S4 _ _ eS47) (cwV 4 hts GV_Lw_23_Pl rfl rfl rfl hd_Pl_process_V ⟨Nat.le_of_ble_eq_true rfl, Nat.le_of_ble_eq_true rfl⟩) (hq_preV1 hW eq49 rfl rfl) rfl rfl hl.1 rfl (lv_room (by first | exact Nat.le_of_ble_eq_true rfl | (simp only [List.map, rf_cat]; exact Nat.le_of_ble_eq_true rfl))) dLw_law_213 ⟨(by show _ ≤ 600000; omega), (by show _ ≤ 7302250; omega)⟩) hW rfl rfl (fun H locs hW => ?_)
          refine lv_aload_n hx hb dLw_law_216 rfl (lv_at hl 2 rfl) ?_
          refine lv_aload_n hx hb dLw_law_217 rfl (lv_at hl 0 rfl) ?_
          refine lv_iload_n hx hb dLw_law_218 rfl (lv_at hl 3 rfl) ?_
          refine lv_iconst hx hb dLw_law_219 (v := (1 : Int32)) rfl ?_
          refine lv_iadd hx hb dLw_law_220 ?_
          replace h := ob h; obtain ⟨v50, ev50, h⟩ := h
          refine hq_sld hx hb hX hW ev50 dLw_law_221 ?_
          refine lv_aload_n hx hb dLw_law_222 rfl (lv_at hl 0 rfl) ?_
          refine lv_iload_n hx hb dLw_law_223 rfl (lv_at hl 3 rfl) ?_
          refine lv_iconst hx hb dLw_law_224 (v := (2 : Int32)) rfl ?_
          refine lv_iadd hx hb dLw_law_225 ?_
          replace h := ob h; obtain ⟨v51, ev51, h⟩ := h
          refine hq_sld hx hb hX hW ev51 dLw_law_226 ?_
          refine lv_aload_n hx hb dLw_law_227 rfl (lv_at hl 0 rfl) ?_
          refine lv_iload_n hx hb dLw_law_228 rfl (lv_at hl 3 rfl) ?_
          refine lv_iconst hx hb dLw_law_229 (v := (3 : Int32)) rfl ?_
          refine lv_iadd hx hb dLw_law_230 ?_
          replace h := ob h; obtain ⟨v52, ev52, h⟩ := h
          refine hq_sld hx hb hX hW ev52 dLw_law_231 ?_
          refine lv_aload_n hx hb dLw_law_232 rfl (lv_at hl 0 rfl) ?_
          refine lv_iload_n hx hb dLw_law_233 rfl (lv_at hl 3 rfl) ?_
          refine lv_iconst hx hb dLw_law_234 (v := (4 : Int32)) rfl ?_
          refine lv_iadd hx hb dLw_law_235 ?_
          replace h := ob h; obtain ⟨v53, ev53, h⟩ := h
          refine hq_sld hx hb hX hW ev53 dLw_law_236 ?_
          replace h := ob h; obtain ⟨q56, eq56, h⟩ := h
          replace h := ob h; obtain ⟨⟨v55, S54⟩, eS54, h⟩ := h
          refine hq_calli (ce := cb) (sl := sb) (va_runV (As := [.int v50, .int v51, .int v52, .int v53]) (rest := [.int v48]) ⟨hx, hb, hml, hown, hts⟩ (kMo_process l D tc b S1.1 v50 v51 v52 v53 S47 _ _ eS54) (cwV 4 hts GV_Lw_27_Mo rfl rfl rfl hd_Mo_process_V ⟨Nat.le_of_ble_eq_true rfl, Nat.le_of_ble_eq_true rfl⟩) (hq_preV1 hW eq56 rfl rfl) rfl rfl hl.1 rfl (lv_room (by first | exact Nat.le_of_ble_eq_true rfl | (simp only [List.map, rf_cat]; exact Nat.le_of_ble_eq_true rfl))) dLw_law_237 ⟨(by show _ ≤ 600000; omega), (by show _ ≤ 7302250; omega)⟩) hW rfl rfl (fun H locs hW => ?_)
          refine lv_icmp_eq hx hb dLw_law_240 (tgt := 700) rfl (fun hc58 => ?_) (fun hc58 => ?_)
          · replace h := if_t hc58 h
            refine lv_iinc (k := 3) (v := i3 + 7) (lv' := [(3, .int (i3 + 7)), (0, .ref b0), (1, .ref S.1), (2, .ref S1.1)]) hx hb dLw_law_700 hl rfl rfl (Nat.le_of_ble_eq_true rfl) (by first | rfl | (simp [List.filter, rf_cat] <;> rfl)) (fun ls hl => ?_)
            refine lv_goto hx hb dLw_law_703 (tgt := 18) rfl ?_
            exact hin _ (Option.some.inj h).symm cb sb (by omega) (by omega) _ _ _ (lv_sub hl [1, 2, 3, 0] rfl) hW
          · replace h := if_f hc58 h
            refine lv_iconst hx hb dLw_law_243 (v := (0 : Int32)) rfl ?_
            replace h := ob h; obtain ⟨z57, ez57, h⟩ := h
            exact hq_lwret hargs hbe hx hb hr hlocks (bz_some ez57).2 (congrArg some (hex _ (Option.some.inj h).symm)) (by omega) (by omega) hW dLw_law_244
        · replace h := if_f hc42 h
          have hc42n0 := hc42
          by_cases hc59 : (v7 &&& (15 : Int32)) = 3
          · replace h := if_t hc59 h
            refine lv_tableIn hx hb dLw_law_33 (tgt := 245) (by rw [hc59]; decide) (by rw [hc59]; decide) (by rw [hc59] <;> rfl) rfl ?_
            refine lv_aload_n hx hb dLw_law_245 rfl (lv_at hl 1 rfl) ?_
            refine lv_aload_n hx hb dLw_law_246 rfl (lv_at hl 0 rfl) ?_
            refine lv_iload_n hx hb dLw_law_247 rfl (lv_at hl 3 rfl) ?_
            refine lv_iconst hx hb dLw_law_248 (v := (1 : Int32)) rfl ?_
            refine lv_iadd hx hb dLw_law_249 ?_
            replace h := ob h; obtain ⟨v60, ev60, h⟩ := h
            refine hq_sld hx hb hX hW ev60 dLw_law_250 ?_
            refine lv_aload_n hx hb dLw_law_251 rfl (lv_at hl 0 rfl) ?_
            refine lv_iload_n hx hb dLw_law_252 rfl (lv_at hl 3 rfl) ?_
            refine lv_iconst hx hb dLw_law_253 (v := (2 : Int32)) rfl ?_
            refine lv_iadd hx hb dLw_law_254 ?_
            replace h := ob h; obtain ⟨v61, ev61, h⟩ := h
            refine hq_sld hx hb hX hW ev61 dLw_law_255 ?_
            refine lv_aload_n hx hb dLw_law_256 rfl (lv_at hl 0 rfl) ?_
            refine lv_iload_n hx hb dLw_law_257 rfl (lv_at hl 3 rfl) ?_
            refine lv_iconst hx hb dLw_law_258 (v := (3 : Int32)) rfl ?_
            refine lv_iadd hx hb dLw_law_259 ?_
            replace h := ob h; obtain ⟨v62, ev62, h⟩ := h
            refine hq_sld hx hb hX hW ev62 dLw_law_260 ?_
            replace h := ob h; obtain ⟨q65, eq65, h⟩ := h
            replace h := ob h; obtain ⟨⟨v64, S63⟩, eS63, h⟩ := h
            refine hq_calli (ce := cb) (sl := sb) (va_runV (As := [.int v60, .int v61, .int v62]) (rest := []) ⟨hx, hb, hml, hown, hts⟩ (kPl_cell l D tc b S.1 v60 v61 v62 S4 _ _ eS63) (cwV 3 hts GV_Lw_28_Pl rfl rfl rfl hd_Pl_cell_V ⟨Nat.le_of_ble_eq_true rfl, Nat.le_of_ble_eq_true rfl⟩) (hq_preV1 hW eq65 rfl rfl) rfl rfl hl.1 rfl (lv_room (by first | exact Nat.le_of_ble_eq_true rfl | (simp only [List.map, rf_cat]; exact Nat.le_of_ble_eq_true rfl))) dLw_law_261 ⟨(by show _ ≤ 600000; omega), (by show _ ≤ 7302250; omega)⟩) hW rfl rfl (fun H locs hW => ?_)
            refine lv_aload_n hx hb dLw_law_264 rfl (lv_at hl 2 rfl) ?_
            refine lv_aload_n hx hb dLw_law_265 rfl (lv_at hl 0 rfl) ?_
            refine lv_iload_n hx hb dLw_law_266 rfl (lv_at hl 3 rfl) ?_
            refine lv_iconst hx hb dLw_law_267 (v := (1 : Int32)) rfl ?_
            refine lv_iadd hx hb dLw_law_268 ?_
            replace h := ob h; obtain ⟨v66, ev66, h⟩ := h
            refine hq_sld hx hb hX hW ev66 dLw_law_269 ?_
            refine lv_aload_n hx hb dLw_law_270 rfl (lv_at hl 0 rfl) ?_
            refine lv_iload_n hx hb dLw_law_271 rfl (lv_at hl 3 rfl) ?_
            refine lv_iconst hx hb dLw_law_272 (v := (2 : Int32)) rfl ?_
            refine lv_iadd hx hb dLw_law_273 ?_
            replace h := ob h; obtain ⟨v67, ev67, h⟩ := h
            refine hq_sld hx hb hX hW ev67 dLw_law_274 ?_
            refine lv_aload_n hx hb dLw_law_275 rfl (lv_at hl 0 rfl) ?_
            refine lv_iload_n hx hb dLw_law_276 rfl (lv_at hl 3 rfl) ?_
            refine lv_iconst hx hb dLw_law_277 (v := (3 : Int32)) rfl ?_
            refine lv_iadd hx hb dLw_law_278 ?_
            replace h := ob h; obtain ⟨v68, ev68, h⟩ := h
            refine hq_sld hx hb hX hW ev68 dLw_law_279 ?_
            replace h := ob h; obtain ⟨q71, eq71, h⟩ := h
            replace h := ob h; obtain ⟨⟨v70, S69⟩, eS69, h⟩ := h
            refine hq_calli (ce := cb) (sl := sb) (va_runV (As := [.int v66, .int v67, .int v68]) (rest := [.int v64]) ⟨hx, hb, hml, hown, hts⟩ (kMo_cell l D tc b S1.1 v66 v67 v68 S63 _ _ eS69) (cwV 3 hts GV_Lw_32_Mo rfl rfl rfl hd_Mo_cell_V ⟨Nat.le_of_ble_eq_true rfl, Nat.le_of_ble_eq_true rfl⟩) (hq_preV1 hW eq71 rfl rfl) rfl rfl hl.1 rfl (lv_room (by first | exact Nat.le_of_ble_eq_true rfl | (simp only [List.map, rf_cat]; exact Nat.le_of_ble_eq_true rfl))) dLw_law_280 ⟨(by show _ ≤ 600000; omega), (by show _ ≤ 7302250; omega)⟩) hW rfl rfl (fun H locs hW => ?_)
            refine lv_icmp_eq hx hb dLw_law_283 (tgt := 700) rfl (fun hc73 => ?_) (fun hc73 => ?_)
            · replace h := if_t hc73 h
              refine lv_iinc (k := 3) (v := i3 + 7) (lv' := [(3, .int (i3 + 7)), (0, .ref b0), (1, .ref S.1), (2, .ref S1.1)]) hx hb dLw_law_700 hl rfl rfl (Nat.le_of_ble_eq_true rfl) (by first | rfl | (simp [List.filter, rf_cat] <;> rfl)) (fun ls hl => ?_)
              refine lv_goto hx hb dLw_law_703 (tgt := 18) rfl ?_
              exact hin _ (Option.some.inj h).symm cb sb (by omega) (by omega) _ _ _ (lv_sub hl [1, 2, 3, 0] rfl) hW
            · replace h := if_f hc73 h
              refine lv_iconst hx hb dLw_law_286 (v := (0 : Int32)) rfl ?_
              replace h := ob h; obtain ⟨z72, ez72, h⟩ := h
              exact hq_lwret hargs hbe hx hb hr hlocks (bz_some ez72).2 (congrArg some (hex _ (Option.some.inj h).symm)) (by omega) (by omega) hW dLw_law_287
          · replace h := if_f hc59 h
            have hc59n0 := hc59
            by_cases hc74 : (v7 &&& (15 : Int32)) = 4
            · replace h := if_t hc74 h
              refine lv_tableIn hx hb dLw_law_33 (tgt := 288) (by rw [hc74]; decide) (by rw [hc74]; decide) (by rw [hc74] <;> rfl) rfl ?_
              refine lv_aload_n hx hb dLw_law_288 rfl (lv_at hl 1 rfl) ?_
              refine lv_aload_n hx hb dLw_law_289 rfl (lv_at hl 0 rfl) ?_
              refine lv_iload_n hx hb dLw_law_290 rfl (lv_at hl 3 rfl) ?_
              refine lv_iconst hx hb dLw_law_291 (v := (1 : Int32)) rfl ?_
              refine lv_iadd hx hb dLw_law_292 ?_
              replace h := ob h; obtain ⟨v75, ev75, h⟩ := h
              refine hq_sld hx hb hX hW ev75 dLw_law_293 ?_
              refine lv_aload_n hx hb dLw_law_294 rfl (lv_at hl 0 rfl) ?_
              refine lv_iload_n hx hb dLw_law_295 rfl (lv_at hl 3 rfl) ?_
              refine lv_iconst hx hb dLw_law_296 (v := (2 : Int32)) rfl ?_
              refine lv_iadd hx hb dLw_law_297 ?_
              replace h := ob h; obtain ⟨v76, ev76, h⟩ := h
              refine hq_sld hx hb hX hW ev76 dLw_law_298 ?_
              refine lv_aload_n hx hb dLw_law_299 rfl (lv_at hl 0 rfl) ?_
              refine lv_iload_n hx hb dLw_law_300 rfl (lv_at hl 3 rfl) ?_
              refine lv_iconst hx hb dLw_law_301 (v := (3 : Int32)) rfl ?_
              refine lv_iadd hx hb dLw_law_302 ?_
              replace h := ob h; obtain ⟨v77, ev77, h⟩ := h
              refine hq_sld hx hb hX hW ev77 dLw_law_303 ?_
              replace h := ob h; obtain ⟨q80, eq80, h⟩ := h
              replace h := ob h; obtain ⟨⟨v79, S78⟩, eS78, h⟩ := h
              refine hq_calli (ce := (cb + 1)) (sl := (sb + 8)) (va_runV (As := [.int v75, .int v76, .int v77]) (rest := []) ⟨hx, hb, hml, hown, hts⟩ (kPl_point l D tc b S.1 v75 v76 v77 S4 _ _ eS78) (cwV 3 hts GV_Lw_33_Pl rfl rfl rfl hd_Pl_point_V ⟨Nat.le_of_ble_eq_true rfl, Nat.le_of_ble_eq_true rfl⟩) (hq_preV1 hW eq80 rfl rfl) rfl rfl hl.1 rfl (lv_room (by first | exact Nat.le_of_ble_eq_true rfl | (simp only [List.map, rf_cat]; exact Nat.le_of_ble_eq_true rfl))) dLw_law_304 ⟨(by show _ ≤ 600000; omega), (by show _ ≤ 7302250; omega)⟩) hW rfl rfl (fun H locs hW => ?_)
              refine lv_aload_n hx hb dLw_law_307 rfl (lv_at hl 2 rfl) ?_
              refine lv_aload_n hx hb dLw_law_308 rfl (lv_at hl 0 rfl) ?_
              refine lv_iload_n hx hb dLw_law_309 rfl (lv_at hl 3 rfl) ?_
              refine lv_iconst hx hb dLw_law_310 (v := (1 : Int32)) rfl ?_
              refine lv_iadd hx hb dLw_law_311 ?_
              replace h := ob h; obtain ⟨v81, ev81, h⟩ := h
              refine hq_sld hx hb hX hW ev81 dLw_law_312 ?_
              refine lv_aload_n hx hb dLw_law_313 rfl (lv_at hl 0 rfl) ?_
              refine lv_iload_n hx hb dLw_law_314 rfl (lv_at hl 3 rfl) ?_
              refine lv_iconst hx hb dLw_law_315 (v := (2 : Int32)) rfl ?_
              refine lv_iadd hx hb dLw_law_316 ?_
              replace h := ob h; obtain ⟨v82, ev82, h⟩ := h
              refine hq_sld hx hb hX hW ev82 dLw_law_317 ?_
              refine lv_aload_n hx hb dLw_law_318 rfl (lv_at hl 0 rfl) ?_
              refine lv_iload_n hx hb dLw_law_319 rfl (lv_at hl 3 rfl) ?_
              refine lv_iconst hx hb dLw_law_320 (v := (3 : Int32)) rfl ?_
              refine lv_iadd hx hb dLw_law_321 ?_
              replace h := ob h; obtain ⟨v83, ev83, h⟩ := h
              refine hq_sld hx hb hX hW ev83 dLw_law_322 ?_
              replace h := ob h; obtain ⟨q86, eq86, h⟩ := h
              replace h := ob h; obtain ⟨⟨v85, S84⟩, eS84, h⟩ := h
              refine hq_calli (ce := (cb + 1)) (sl := (sb + 8)) (va_runV (As := [.int v81, .int v82, .int v83]) (rest := [.int v79]) ⟨hx, hb, hml, hown, hts⟩ (kMo_point l D tc b S1.1 v81 v82 v83 S78 _ _ eS84) (cwV 3 hts GV_Lw_36_Mo rfl rfl rfl hd_Mo_point_V ⟨Nat.le_of_ble_eq_true rfl, Nat.le_of_ble_eq_true rfl⟩) (hq_preV1 hW eq86 rfl rfl) rfl rfl hl.1 rfl (lv_room (by first | exact Nat.le_of_ble_eq_true rfl | (simp only [List.map, rf_cat]; exact Nat.le_of_ble_eq_true rfl))) dLw_law_323 ⟨(by show _ ≤ 600000; omega), (by show _ ≤ 7302250; omega)⟩) hW rfl rfl (fun H locs hW => ?_)
              refine lv_icmp_eq hx hb dLw_law_326 (tgt := 700) rfl (fun hc88 => ?_) (fun hc88 => ?_)
              · replace h := if_t hc88 h
                refine lv_iinc (k := 3) (v := i3 + 7) (lv' := [(3, .int (i3 + 7)), (0, .ref b0), (1, .ref S.1), (2, .ref S1.1)]) hx hb dLw_law_700 hl rfl rfl (Nat.le_of_ble_eq_true rfl) (by first | rfl | (simp [List.filter, rf_cat] <;> rfl)) (fun ls hl => ?_)
                refine lv_goto hx hb dLw_law_703 (tgt := 18) rfl ?_
                exact hin _ (Option.some.inj h).symm (cb + 1) (sb + 8) (by omega) (by omega) _ _ _ (lv_sub hl [1, 2, 3, 0] rfl) hW
              · replace h := if_f hc88 h
                refine lv_iconst hx hb dLw_law_329 (v := (0 : Int32)) rfl ?_
                replace h := ob h; obtain ⟨z87, ez87, h⟩ := h
                exact hq_lwret hargs hbe hx hb hr hlocks (bz_some ez87).2 (congrArg some (hex _ (Option.some.inj h).symm)) (by omega) (by omega) hW dLw_law_330
            · replace h := if_f hc74 h
              have hc74n0 := hc74
              by_cases hc89 : (v7 &&& (15 : Int32)) = 5
              · replace h := if_t hc89 h
                refine lv_tableIn hx hb dLw_law_33 (tgt := 331) (by rw [hc89]; decide) (by rw [hc89]; decide) (by rw [hc89] <;> rfl) rfl ?_
                refine lv_aload_n hx hb dLw_law_331 rfl (lv_at hl 1 rfl) ?_
                refine lv_aload_n hx hb dLw_law_332 rfl (lv_at hl 0 rfl) ?_
                refine lv_iload_n hx hb dLw_law_333 rfl (lv_at hl 3 rfl) ?_
                refine lv_iconst hx hb dLw_law_334 (v := (1 : Int32)) rfl ?_
                refine lv_iadd hx hb dLw_law_335 ?_
                replace h := ob h; obtain ⟨v90, ev90, h⟩ := h
                refine hq_sld hx hb hX hW ev90 dLw_law_336 ?_
                refine lv_aload_n hx hb dLw_law_337 rfl (lv_at hl 0 rfl) ?_
                refine lv_iload_n hx hb dLw_law_338 rfl (lv_at hl 3 rfl) ?_
                refine lv_iconst hx hb dLw_law_339 (v := (2 : Int32)) rfl ?_
                refine lv_iadd hx hb dLw_law_340 ?_
                replace h := ob h; obtain ⟨v91, ev91, h⟩ := h
                refine hq_sld hx hb hX hW ev91 dLw_law_341 ?_
                refine lv_aload_n hx hb dLw_law_342 rfl (lv_at hl 0 rfl) ?_
                refine lv_iload_n hx hb dLw_law_343 rfl (lv_at hl 3 rfl) ?_
                refine lv_iconst hx hb dLw_law_344 (v := (3 : Int32)) rfl ?_
                refine lv_iadd hx hb dLw_law_345 ?_
                replace h := ob h; obtain ⟨v92, ev92, h⟩ := h
                refine hq_sld hx hb hX hW ev92 dLw_law_346 ?_
                refine lv_aload_n hx hb dLw_law_347 rfl (lv_at hl 0 rfl) ?_
                refine lv_iload_n hx hb dLw_law_348 rfl (lv_at hl 3 rfl) ?_
                refine lv_iconst hx hb dLw_law_349 (v := (4 : Int32)) rfl ?_
                refine lv_iadd hx hb dLw_law_350 ?_
                replace h := ob h; obtain ⟨v93, ev93, h⟩ := h
                refine hq_sld hx hb hX hW ev93 dLw_law_351 ?_
                refine lv_aload_n hx hb dLw_law_352 rfl (lv_at hl 0 rfl) ?_
                refine lv_iload_n hx hb dLw_law_353 rfl (lv_at hl 3 rfl) ?_
                refine lv_iconst hx hb dLw_law_354 (v := (5 : Int32)) rfl ?_
                refine lv_iadd hx hb dLw_law_355 ?_
                replace h := ob h; obtain ⟨v94, ev94, h⟩ := h
                refine hq_sld hx hb hX hW ev94 dLw_law_356 ?_
                refine lv_i2l hx hb dLw_law_357 (v := v94.toInt64) rfl ?_
                refine lv_bipush hx hb dLw_law_358 (v := (32 : Int32)) rfl ?_
                refine lv_lshl hx hb dLw_law_360 (v := v94.toInt64 <<< ((32 : Int32).toInt64 &&& 63)) rfl ?_
                refine lv_aload_n hx hb dLw_law_361 rfl (lv_at hl 0 rfl) ?_
                refine lv_iload_n hx hb dLw_law_362 rfl (lv_at hl 3 rfl) ?_
                refine lv_bipush hx hb dLw_law_363 (v := (6 : Int32)) rfl ?_
                refine lv_iadd hx hb dLw_law_365 ?_
                replace h := ob h; obtain ⟨v95, ev95, h⟩ := h
                refine hq_sld hx hb hX hW ev95 dLw_law_366 ?_
                refine lv_i2l hx hb dLw_law_367 (v := v95.toInt64) rfl ?_
                refine lv_ldc2 hx hb (v := (4294967295 : Int64)) hown (hts _ w_881) dLw_law_368 ?_
                refine lv_land hx hb dLw_law_371 ?_
                refine lv_lor hx hb dLw_law_372 ?_
                replace h := ob h; obtain ⟨q98, eq98, h⟩ := h
                replace h := ob h; obtain ⟨⟨v97, S96⟩, eS96, h⟩ := h
                refine hq_calli (ce := (cb + 1)) (sl := (sb + 9)) (va_runV (As := [.int v90, .int v91, .int v92, .int v93, .long ((v94.toInt64 <<< ((32 : Int32).toInt64 &&& 63)) ||| (v95.toInt64 &&& (4294967295 : Int64)))]) (rest := []) ⟨hx, hb, hml, hown, hts⟩ (kPl_request l D tc b S.1 v90 v91 v92 v93 ((v94.toInt64 <<< ((32 : Int32).toInt64 &&& 63)) ||| (v95.toInt64 &&& (4294967295 : Int64))) S4 _ _ eS96) (cwV 5 hts GV_Lw_39_Pl rfl rfl rfl hd_Pl_request_V ⟨Nat.le_of_ble_eq_true rfl, Nat.le_of_ble_eq_true rfl⟩) (hq_preV1 hW eq98 rfl rfl) rfl rfl hl.1 rfl (lv_room (by first | exact Nat.le_of_ble_eq_true rfl | (simp only [List.map, rf_cat]; exact Nat.le_of_ble_eq_true rfl))) dLw_law_373 ⟨(by show _ ≤ 600000; omega), (by show _ ≤ 7302250; omega)⟩) hW rfl rfl (fun H locs hW => ?_)
                refine lv_aload_n hx hb dLw_law_376 rfl (lv_at hl 2 rfl) ?_
                refine lv_aload_n hx hb dLw_law_377 rfl (lv_at hl 0 rfl) ?_
                refine lv_iload_n hx hb dLw_law_378 rfl (lv_at hl 3 rfl) ?_
                refine lv_iconst hx hb dLw_law_379 (v := (1 : Int32)) rfl ?_
                refine lv_iadd hx hb dLw_law_380 ?_
                replace h := ob h; obtain ⟨v99, ev99, h⟩ := h
                refine hq_sld hx hb hX hW ev99 dLw_law_381 ?_
                refine lv_aload_n hx hb dLw_law_382 rfl (lv_at hl 0 rfl) ?_
                refine lv_iload_n hx hb dLw_law_383 rfl (lv_at hl 3 rfl) ?_
                refine lv_iconst hx hb dLw_law_384 (v := (2 : Int32)) rfl ?_
                refine lv_iadd hx hb dLw_law_385 ?_
                replace h := ob h; obtain ⟨v100, ev100, h⟩ := h
                refine hq_sld hx hb hX hW ev100 dLw_law_386 ?_
                refine lv_aload_n hx hb dLw_law_387 rfl (lv_at hl 0 rfl) ?_
                refine lv_iload_n hx hb dLw_law_388 rfl (lv_at hl 3 rfl) ?_
                refine lv_iconst hx hb dLw_law_389 (v := (3 : Int32)) rfl ?_
                refine lv_iadd hx hb dLw_law_390 ?_
                replace h := ob h; obtain ⟨v101, ev101, h⟩ := h
                refine hq_sld hx hb hX hW ev101 dLw_law_391 ?_
                refine lv_aload_n hx hb dLw_law_392 rfl (lv_at hl 0 rfl) ?_
                refine lv_iload_n hx hb dLw_law_393 rfl (lv_at hl 3 rfl) ?_
                refine lv_iconst hx hb dLw_law_394 (v := (4 : Int32)) rfl ?_
                refine lv_iadd hx hb dLw_law_395 ?_
                replace h := ob h; obtain ⟨v102, ev102, h⟩ := h
                refine hq_sld hx hb hX hW ev102 dLw_law_396 ?_
                refine lv_aload_n hx hb dLw_law_397 rfl (lv_at hl 0 rfl) ?_
                refine lv_iload_n hx hb dLw_law_398 rfl (lv_at hl 3 rfl) ?_
                refine lv_iconst hx hb dLw_law_399 (v := (5 : Int32)) rfl ?_
                refine lv_iadd hx hb dLw_law_400 ?_
                replace h := ob h; obtain ⟨v103, ev103, h⟩ := h
                refine hq_sld hx hb hX hW ev103 dLw_law_401 ?_
                refine lv_i2l hx hb dLw_law_402 (v := v103.toInt64) rfl ?_
                refine lv_bipush hx hb dLw_law_403 (v := (32 : Int32)) rfl ?_
                refine lv_lshl hx hb dLw_law_405 (v := v103.toInt64 <<< ((32 : Int32).toInt64 &&& 63)) rfl ?_
                refine lv_aload_n hx hb dLw_law_406 rfl (lv_at hl 0 rfl) ?_
                refine lv_iload_n hx hb dLw_law_407 rfl (lv_at hl 3 rfl) ?_
                refine lv_bipush hx hb dLw_law_408 (v := (6 : Int32)) rfl ?_
                refine lv_iadd hx hb dLw_law_410 ?_
                replace h := ob h; obtain ⟨v104, ev104, h⟩ := h
                refine hq_sld hx hb hX hW ev104 dLw_law_411 ?_
                refine lv_i2l hx hb dLw_law_412 (v := v104.toInt64) rfl ?_
                refine lv_ldc2 hx hb (v := (4294967295 : Int64)) hown (hts _ w_881) dLw_law_413 ?_
                refine lv_land hx hb dLw_law_416 ?_
                refine lv_lor hx hb dLw_law_417 ?_
                replace h := ob h; obtain ⟨q107, eq107, h⟩ := h
                replace h := ob h; obtain ⟨⟨v106, S105⟩, eS105, h⟩ := h
                refine hq_calli (ce := (cb + 1)) (sl := (sb + 9)) (va_runV (As := [.int v99, .int v100, .int v101, .int v102, .long ((v103.toInt64 <<< ((32 : Int32).toInt64 &&& 63)) ||| (v104.toInt64 &&& (4294967295 : Int64)))]) (rest := [.int v97]) ⟨hx, hb, hml, hown, hts⟩ (kMo_request l D tc b S1.1 v99 v100 v101 v102 ((v103.toInt64 <<< ((32 : Int32).toInt64 &&& 63)) ||| (v104.toInt64 &&& (4294967295 : Int64))) S96 _ _ eS105) (cwV 5 hts GV_Lw_43_Mo rfl rfl rfl hd_Mo_request_V ⟨Nat.le_of_ble_eq_true rfl, Nat.le_of_ble_eq_true rfl⟩) (hq_preV1 hW eq107 rfl rfl) rfl rfl hl.1 rfl (lv_room (by first | exact Nat.le_of_ble_eq_true rfl | (simp only [List.map, rf_cat]; exact Nat.le_of_ble_eq_true rfl))) dLw_law_418 ⟨(by show _ ≤ 600000; omega), (by show _ ≤ 7302250; omega)⟩) hW rfl rfl (fun H locs hW => ?_)
                refine lv_icmp_eq hx hb dLw_law_421 (tgt := 700) rfl (fun hc109 => ?_) (fun hc109 => ?_)
                · replace h := if_t hc109 h
                  refine lv_iinc (k := 3) (v := i3 + 7) (lv' := [(3, .int (i3 + 7)), (0, .ref b0), (1, .ref S.1), (2, .ref S1.1)]) hx hb dLw_law_700 hl rfl rfl (Nat.le_of_ble_eq_true rfl) (by first | rfl | (simp [List.filter, rf_cat] <;> rfl)) (fun ls hl => ?_)
                  refine lv_goto hx hb dLw_law_703 (tgt := 18) rfl ?_
                  exact hin _ (Option.some.inj h).symm (cb + 1) (sb + 9) (by omega) (by omega) _ _ _ (lv_sub hl [1, 2, 3, 0] rfl) hW
                · replace h := if_f hc109 h
                  refine lv_iconst hx hb dLw_law_424 (v := (0 : Int32)) rfl ?_
                  replace h := ob h; obtain ⟨z108, ez108, h⟩ := h
                  exact hq_lwret hargs hbe hx hb hr hlocks (bz_some ez108).2 (congrArg some (hex _ (Option.some.inj h).symm)) (by omega) (by omega) hW dLw_law_425
              · replace h := if_f hc89 h
                have hc89n0 := hc89
                by_cases hc110 : (v7 &&& (15 : Int32)) = 6
                · replace h := if_t hc110 h
                  refine lv_tableIn hx hb dLw_law_33 (tgt := 426) (by rw [hc110]; decide) (by rw [hc110]; decide) (by rw [hc110] <;> rfl) rfl ?_
                  refine lv_aload_n hx hb dLw_law_426 rfl (lv_at hl 1 rfl) ?_
                  refine lv_aload_n hx hb dLw_law_427 rfl (lv_at hl 0 rfl) ?_
                  refine lv_iload_n hx hb dLw_law_428 rfl (lv_at hl 3 rfl) ?_
                  refine lv_iconst hx hb dLw_law_429 (v := (1 : Int32)) rfl ?_
                  refine lv_iadd hx hb dLw_law_430 ?_
                  replace h := ob h; obtain ⟨v111, ev111, h⟩ := h
                  refine hq_sld hx hb hX hW ev111 dLw_law_431 ?_
                  refine lv_aload_n hx hb dLw_law_432 rfl (lv_at hl 0 rfl) ?_
                  refine lv_iload_n hx hb dLw_law_433 rfl (lv_at hl 3 rfl) ?_
                  refine lv_iconst hx hb dLw_law_434 (v := (2 : Int32)) rfl ?_
                  refine lv_iadd hx hb dLw_law_435 ?_
                  replace h := ob h; obtain ⟨v112, ev112, h⟩ := h
                  refine hq_sld hx hb hX hW ev112 dLw_law_436 ?_
                  replace h := ob h; obtain ⟨q114, e445, h⟩ := h
                  have hJ445 : ∀ q', q' = q114 → ∀ (H : Heap) (locs : List Loc) (ls : Array Slot), lv_has ls 4 [(0, .ref b0), (1, .ref S.1), (2, .ref S1.1), (3, .int i3)] → Wd D vwCl (hTy tc) b S4 s H locs → W p l e room_1 s m args below meth c H locs cb sb (lw_Z below args s) (F0 m 445 ls [.int q', .int v111, .ref S.1]) := by
                    intro i113 hq'; subst hq'
                    intro H locs ls hl hW
                    refine lv_aload_n hx hb dLw_law_445 rfl (lv_at hl 0 rfl) ?_
                    refine lv_iload_n hx hb dLw_law_446 rfl (lv_at hl 3 rfl) ?_
                    refine lv_iconst hx hb dLw_law_447 (v := (3 : Int32)) rfl ?_
                    refine lv_iadd hx hb dLw_law_448 ?_
                    replace h := ob h; obtain ⟨v116, ev116, h⟩ := h
                    refine hq_sld hx hb hX hW ev116 dLw_law_449 ?_
                    replace h := ob h; obtain ⟨q119, eq119, h⟩ := h
                    replace h := ob h; obtain ⟨⟨v118, S117⟩, eS117, h⟩ := h
                    refine hq_calli (ce := cb) (sl := sb) (va_runV (As := [.int v111, .int i113, .int v116]) (rest := []) ⟨hx, hb, hml, hown, hts⟩ (kPl_fault l D tc b S.1 v111 i113 v116 S4 _ _ eS117) (cwV 3 hts GV_Lw_44_Pl rfl rfl rfl hd_Pl_fault_V ⟨Nat.le_of_ble_eq_true rfl, Nat.le_of_ble_eq_true rfl⟩) (hq_preV1 hW eq119 rfl rfl) rfl rfl hl.1 rfl (lv_room (by first | exact Nat.le_of_ble_eq_true rfl | (simp only [List.map, rf_cat]; exact Nat.le_of_ble_eq_true rfl))) dLw_law_450 ⟨(by show _ ≤ 600000; omega), (by show _ ≤ 7302250; omega)⟩) hW rfl rfl (fun H locs hW => ?_)
                    refine lv_aload_n hx hb dLw_law_453 rfl (lv_at hl 2 rfl) ?_
                    refine lv_aload_n hx hb dLw_law_454 rfl (lv_at hl 0 rfl) ?_
                    refine lv_iload_n hx hb dLw_law_455 rfl (lv_at hl 3 rfl) ?_
                    refine lv_iconst hx hb dLw_law_456 (v := (1 : Int32)) rfl ?_
                    refine lv_iadd hx hb dLw_law_457 ?_
                    replace h := ob h; obtain ⟨v120, ev120, h⟩ := h
                    refine hq_sld hx hb hX hW ev120 dLw_law_458 ?_
                    refine lv_aload_n hx hb dLw_law_459 rfl (lv_at hl 0 rfl) ?_
                    refine lv_iload_n hx hb dLw_law_460 rfl (lv_at hl 3 rfl) ?_
                    refine lv_iconst hx hb dLw_law_461 (v := (2 : Int32)) rfl ?_
                    refine lv_iadd hx hb dLw_law_462 ?_
                    replace h := ob h; obtain ⟨v121, ev121, h⟩ := h
                    refine hq_sld hx hb hX hW ev121 dLw_law_463 ?_
                    replace h := ob h; obtain ⟨q123, e472, h⟩ := h
                    have hJ472 : ∀ q', q' = q123 → ∀ (H : Heap) (locs : List Loc) (ls : Array Slot), lv_has ls 4 [(0, .ref b0), (1, .ref S.1), (2, .ref S1.1), (3, .int i3)] → Wd D vwCl (hTy tc) b S117 s H locs → W p l e room_1 s m args below meth c H locs cb sb (lw_Z below args s) (F0 m 472 ls [.int q', .int v120, .ref S1.1, .int v118]) := by
                      intro i122 hq'; subst hq'
                      intro H locs ls hl hW
                      refine lv_aload_n hx hb dLw_law_472 rfl (lv_at hl 0 rfl) ?_
                      refine lv_iload_n hx hb dLw_law_473 rfl (lv_at hl 3 rfl) ?_
                      refine lv_iconst hx hb dLw_law_474 (v := (3 : Int32)) rfl ?_
                      refine lv_iadd hx hb dLw_law_475 ?_
                      replace h := ob h; obtain ⟨v125, ev125, h⟩ := h
                      refine hq_sld hx hb hX hW ev125 dLw_law_476 ?_
                      replace h := ob h; obtain ⟨q128, eq128, h⟩ := h
                      replace h := ob h; obtain ⟨⟨v127, S126⟩, eS126, h⟩ := h
                      refine hq_calli (ce := cb) (sl := sb) (va_runV (As := [.int v120, .int i122, .int v125]) (rest := [.int v118]) ⟨hx, hb, hml, hown, hts⟩ (kMo_fault l D tc b S1.1 v120 i122 v125 S117 _ _ eS126) (cwV 3 hts GV_Lw_48_Mo rfl rfl rfl hd_Mo_fault_V ⟨Nat.le_of_ble_eq_true rfl, Nat.le_of_ble_eq_true rfl⟩) (hq_preV1 hW eq128 rfl rfl) rfl rfl hl.1 rfl (lv_room (by first | exact Nat.le_of_ble_eq_true rfl | (simp only [List.map, rf_cat]; exact Nat.le_of_ble_eq_true rfl))) dLw_law_477 ⟨(by show _ ≤ 600000; omega), (by show _ ≤ 7302250; omega)⟩) hW rfl rfl (fun H locs hW => ?_)
                      refine lv_icmp_eq hx hb dLw_law_480 (tgt := 700) rfl (fun hc130 => ?_) (fun hc130 => ?_)
                      · replace h := if_t hc130 h
                        refine lv_iinc (k := 3) (v := i3 + 7) (lv' := [(3, .int (i3 + 7)), (0, .ref b0), (1, .ref S.1), (2, .ref S1.1)]) hx hb dLw_law_700 hl rfl rfl (Nat.le_of_ble_eq_true rfl) (by first | rfl | (simp [List.filter, rf_cat] <;> rfl)) (fun ls hl => ?_)
                        refine lv_goto hx hb dLw_law_703 (tgt := 18) rfl ?_
                        exact hin _ (Option.some.inj h).symm cb sb (by omega) (by omega) _ _ _ (lv_sub hl [1, 2, 3, 0] rfl) hW
                      · replace h := if_f hc130 h
                        refine lv_iconst hx hb dLw_law_483 (v := (0 : Int32)) rfl ?_
                        replace h := ob h; obtain ⟨z129, ez129, h⟩ := h
                        exact hq_lwret hargs hbe hx hb hr hlocks (bz_some ez129).2 (congrArg some (hex _ (Option.some.inj h).symm)) (by omega) (by omega) hW dLw_law_484
                    clear h; have h := e472; clear e472
                    refine lv_if_eq hx hb dLw_law_464 (tgt := 471) rfl (fun hc124 => ?_) (fun hc124 => ?_)
                    · replace h := if_t hc124 h
                      refine lv_iconst hx hb dLw_law_471 (v := (0 : Int32)) rfl ?_
                      exact hJ472 _ (Option.some.inj h) _ _ _ (lv_sub hl [0, 1, 2, 3] rfl) hW
                    · replace h := if_f hc124 h
                      refine lv_iconst hx hb dLw_law_467 (v := (1 : Int32)) rfl ?_
                      refine lv_goto hx hb dLw_law_468 (tgt := 472) rfl ?_
                      exact hJ472 _ (Option.some.inj h) _ _ _ (lv_sub hl [0, 1, 2, 3] rfl) hW
                  clear h; have h := e445; clear e445
                  refine lv_if_eq hx hb dLw_law_437 (tgt := 444) rfl (fun hc115 => ?_) (fun hc115 => ?_)
                  · replace h := if_t hc115 h
                    refine lv_iconst hx hb dLw_law_444 (v := (0 : Int32)) rfl ?_
                    exact hJ445 _ (Option.some.inj h) _ _ _ (lv_sub hl [0, 1, 2, 3] rfl) hW
                  · replace h := if_f hc115 h
                    refine lv_iconst hx hb dLw_law_440 (v := (1 : Int32)) rfl ?_
                    refine lv_goto hx hb dLw_law_441 (tgt := 445) rfl ?_
                    exact hJ445 _ (Option.some.inj h) _ _ _ (lv_sub hl [0, 1, 2, 3] rfl) hW
                · replace h := if_f hc110 h
                  have hc110n0 := hc110
                  by_cases hc131 : (v7 &&& (15 : Int32)) = 7
                  · replace h := if_t hc131 h
                    refine lv_tableIn hx hb dLw_law_33 (tgt := 485) (by rw [hc131]; decide) (by rw [hc131]; decide) (by rw [hc131] <;> rfl) rfl ?_
                    refine lv_aload_n hx hb dLw_law_485 rfl (lv_at hl 1 rfl) ?_
                    replace h := ob h; obtain ⟨q134, eq134, h⟩ := h
                    replace h := ob h; obtain ⟨⟨v133, S132⟩, eS132, h⟩ := h
                    refine hq_calli (ce := cb) (sl := sb) (va_runV (As := []) (rest := []) ⟨hx, hb, hml, hown, hts⟩ (kPl_tick l D tc b S.1 S4 _ _ eS132) (cwV 0 hts GV_Lw_49_Pl rfl rfl rfl hd_Pl_tick_V ⟨Nat.le_of_ble_eq_true rfl, Nat.le_of_ble_eq_true rfl⟩) (hq_preV1 hW eq134 rfl rfl) rfl rfl hl.1 rfl (lv_room (by first | exact Nat.le_of_ble_eq_true rfl | (simp only [List.map, rf_cat]; exact Nat.le_of_ble_eq_true rfl))) dLw_law_486 ⟨(by show _ ≤ 600000; omega), (by show _ ≤ 7302250; omega)⟩) hW rfl rfl (fun H locs hW => ?_)
                    refine lv_aload_n hx hb dLw_law_489 rfl (lv_at hl 2 rfl) ?_
                    replace h := ob h; obtain ⟨q137, eq137, h⟩ := h
                    replace h := ob h; obtain ⟨⟨v136, S135⟩, eS135, h⟩ := h
                    refine hq_calli (ce := cb) (sl := sb) (va_runV (As := []) (rest := [.int v133]) ⟨hx, hb, hml, hown, hts⟩ (kMo_tick l D tc b S1.1 S132 _ _ eS135) (cwV 0 hts GV_Lw_53_Mo rfl rfl rfl hd_Mo_tick_V ⟨Nat.le_of_ble_eq_true rfl, Nat.le_of_ble_eq_true rfl⟩) (hq_preV1 hW eq137 rfl rfl) rfl rfl hl.1 rfl (lv_room (by first | exact Nat.le_of_ble_eq_true rfl | (simp only [List.map, rf_cat]; exact Nat.le_of_ble_eq_true rfl))) dLw_law_490 ⟨(by show _ ≤ 600000; omega), (by show _ ≤ 7302250; omega)⟩) hW rfl rfl (fun H locs hW => ?_)
                    refine lv_icmp_eq hx hb dLw_law_493 (tgt := 700) rfl (fun hc139 => ?_) (fun hc139 => ?_)
                    · replace h := if_t hc139 h
                      refine lv_iinc (k := 3) (v := i3 + 7) (lv' := [(3, .int (i3 + 7)), (0, .ref b0), (1, .ref S.1), (2, .ref S1.1)]) hx hb dLw_law_700 hl rfl rfl (Nat.le_of_ble_eq_true rfl) (by first | rfl | (simp [List.filter, rf_cat] <;> rfl)) (fun ls hl => ?_)
                      refine lv_goto hx hb dLw_law_703 (tgt := 18) rfl ?_
                      exact hin _ (Option.some.inj h).symm cb sb (by omega) (by omega) _ _ _ (lv_sub hl [1, 2, 3, 0] rfl) hW
                    · replace h := if_f hc139 h
                      refine lv_iconst hx hb dLw_law_496 (v := (0 : Int32)) rfl ?_
                      replace h := ob h; obtain ⟨z138, ez138, h⟩ := h
                      exact hq_lwret hargs hbe hx hb hr hlocks (bz_some ez138).2 (congrArg some (hex _ (Option.some.inj h).symm)) (by omega) (by omega) hW dLw_law_497
                  · replace h := if_f hc131 h
                    have hc131n0 := hc131
                    by_cases hc140 : (v7 &&& (15 : Int32)) = 8
                    · replace h := if_t hc140 h
                      refine lv_tableIn hx hb dLw_law_33 (tgt := 498) (by rw [hc140]; decide) (by rw [hc140]; decide) (by rw [hc140] <;> rfl) rfl ?_
                      refine lv_aload_n hx hb dLw_law_498 rfl (lv_at hl 1 rfl) ?_
                      refine lv_aload_n hx hb dLw_law_499 rfl (lv_at hl 0 rfl) ?_
                      refine lv_iload_n hx hb dLw_law_500 rfl (lv_at hl 3 rfl) ?_
                      refine lv_iconst hx hb dLw_law_501 (v := (1 : Int32)) rfl ?_
                      refine lv_iadd hx hb dLw_law_502 ?_
                      replace h := ob h; obtain ⟨v141, ev141, h⟩ := h
                      refine hq_sld hx hb hX hW ev141 dLw_law_503 ?_
                      refine lv_aload_n hx hb dLw_law_504 rfl (lv_at hl 0 rfl) ?_
                      refine lv_iload_n hx hb dLw_law_505 rfl (lv_at hl 3 rfl) ?_
                      refine lv_iconst hx hb dLw_law_506 (v := (2 : Int32)) rfl ?_
                      refine lv_iadd hx hb dLw_law_507 ?_
                      replace h := ob h; obtain ⟨v142, ev142, h⟩ := h
                      refine hq_sld hx hb hX hW ev142 dLw_law_508 ?_
                      replace h := ob h; obtain ⟨q145, eq145, h⟩ := h
                      replace h := ob h; obtain ⟨⟨u144, S143⟩, eS143, h⟩ := h
                      refine hq_calll (ce := cb) (sl := sb) (va_runV (As := [.int v141, .int v142]) (rest := []) ⟨hx, hb, hml, hown, hts⟩ (kPl_reply l D tc b S.1 v141 v142 S4 _ _ eS143) (cwV 2 hts GV_Lw_54_Pl rfl rfl rfl hd_Pl_reply_V ⟨Nat.le_of_ble_eq_true rfl, Nat.le_of_ble_eq_true rfl⟩) (hq_preV1 hW eq145 rfl rfl) rfl rfl hl.1 rfl (lv_room (by first | exact Nat.le_of_ble_eq_true rfl | (simp only [List.map, rf_cat]; exact Nat.le_of_ble_eq_true rfl))) dLw_law_509 ⟨(by show _ ≤ 600000; omega), (by show _ ≤ 7302250; omega)⟩) hW rfl rfl (fun H locs hW => ?_)
                      refine lv_aload_n hx hb dLw_law_512 rfl (lv_at hl 2 rfl) ?_
                      refine lv_aload_n hx hb dLw_law_513 rfl (lv_at hl 0 rfl) ?_
                      refine lv_iload_n hx hb dLw_law_514 rfl (lv_at hl 3 rfl) ?_
                      refine lv_iconst hx hb dLw_law_515 (v := (1 : Int32)) rfl ?_
                      refine lv_iadd hx hb dLw_law_516 ?_
                      replace h := ob h; obtain ⟨v146, ev146, h⟩ := h
                      refine hq_sld hx hb hX hW ev146 dLw_law_517 ?_
                      refine lv_aload_n hx hb dLw_law_518 rfl (lv_at hl 0 rfl) ?_
                      refine lv_iload_n hx hb dLw_law_519 rfl (lv_at hl 3 rfl) ?_
                      refine lv_iconst hx hb dLw_law_520 (v := (2 : Int32)) rfl ?_
                      refine lv_iadd hx hb dLw_law_521 ?_
                      replace h := ob h; obtain ⟨v147, ev147, h⟩ := h
                      refine hq_sld hx hb hX hW ev147 dLw_law_522 ?_
                      replace h := ob h; obtain ⟨q150, eq150, h⟩ := h
                      replace h := ob h; obtain ⟨⟨u149, S148⟩, eS148, h⟩ := h
                      refine hq_calll (ce := cb) (sl := sb) (va_runV (As := [.int v146, .int v147]) (rest := [.long u144]) ⟨hx, hb, hml, hown, hts⟩ (kMo_reply l D tc b S1.1 v146 v147 S143 _ _ eS148) (cwV 2 hts GV_Lw_58_Mo rfl rfl rfl hd_Mo_reply_V ⟨Nat.le_of_ble_eq_true rfl, Nat.le_of_ble_eq_true rfl⟩) (hq_preV1 hW eq150 rfl rfl) rfl rfl hl.1 rfl (lv_room (by first | exact Nat.le_of_ble_eq_true rfl | (simp only [List.map, rf_cat]; exact Nat.le_of_ble_eq_true rfl))) dLw_law_523 ⟨(by show _ ≤ 600000; omega), (by show _ ≤ 7302250; omega)⟩) hW rfl rfl (fun H locs hW => ?_)
                      refine W.lcmp hx hb dLw_law_526 ?_
                      refine lv_if_eq hx hb dLw_law_527 (tgt := 700) rfl (fun hc152 => ?_) (fun hc152 => ?_)
                      · replace h := if_t hc152 h
                        refine lv_iinc (k := 3) (v := i3 + 7) (lv' := [(3, .int (i3 + 7)), (0, .ref b0), (1, .ref S.1), (2, .ref S1.1)]) hx hb dLw_law_700 hl rfl rfl (Nat.le_of_ble_eq_true rfl) (by first | rfl | (simp [List.filter, rf_cat] <;> rfl)) (fun ls hl => ?_)
                        refine lv_goto hx hb dLw_law_703 (tgt := 18) rfl ?_
                        exact hin _ (Option.some.inj h).symm cb sb (by omega) (by omega) _ _ _ (lv_sub hl [1, 2, 3, 0] rfl) hW
                      · replace h := if_f hc152 h
                        refine lv_iconst hx hb dLw_law_530 (v := (0 : Int32)) rfl ?_
                        replace h := ob h; obtain ⟨z151, ez151, h⟩ := h
                        exact hq_lwret hargs hbe hx hb hr hlocks (bz_some ez151).2 (congrArg some (hex _ (Option.some.inj h).symm)) (by omega) (by omega) hW dLw_law_531
                    · replace h := if_f hc140 h
                      have hc140n0 := hc140
                      by_cases hc153 : (v7 &&& (15 : Int32)) = 9
                      · replace h := if_t hc153 h
                        refine lv_tableIn hx hb dLw_law_33 (tgt := 532) (by rw [hc153]; decide) (by rw [hc153]; decide) (by rw [hc153] <;> rfl) rfl ?_
                        refine lv_aload_n hx hb dLw_law_532 rfl (lv_at hl 1 rfl) ?_
                        refine lv_aload_n hx hb dLw_law_533 rfl (lv_at hl 0 rfl) ?_
                        refine lv_iload_n hx hb dLw_law_534 rfl (lv_at hl 3 rfl) ?_
                        refine lv_iconst hx hb dLw_law_535 (v := (1 : Int32)) rfl ?_
                        refine lv_iadd hx hb dLw_law_536 ?_
                        replace h := ob h; obtain ⟨v154, ev154, h⟩ := h
                        refine hq_sld hx hb hX hW ev154 dLw_law_537 ?_
                        refine lv_aload_n hx hb dLw_law_538 rfl (lv_at hl 0 rfl) ?_
                        refine lv_iload_n hx hb dLw_law_539 rfl (lv_at hl 3 rfl) ?_
                        refine lv_iconst hx hb dLw_law_540 (v := (2 : Int32)) rfl ?_
                        refine lv_iadd hx hb dLw_law_541 ?_
                        replace h := ob h; obtain ⟨v155, ev155, h⟩ := h
                        refine hq_sld hx hb hX hW ev155 dLw_law_542 ?_
                        replace h := ob h; obtain ⟨q158, eq158, h⟩ := h
                        replace h := ob h; obtain ⟨⟨v157, S156⟩, eS156, h⟩ := h
                        refine hq_calli (ce := cb) (sl := sb) (va_runV (As := [.int v154, .int v155]) (rest := []) ⟨hx, hb, hml, hown, hts⟩ (kPl_line l D tc b S.1 v154 v155 S4 _ _ eS156) (cwV 2 hts GV_Lw_59_Pl rfl rfl rfl hd_Pl_line_V ⟨Nat.le_of_ble_eq_true rfl, Nat.le_of_ble_eq_true rfl⟩) (hq_preV1 hW eq158 rfl rfl) rfl rfl hl.1 rfl (lv_room (by first | exact Nat.le_of_ble_eq_true rfl | (simp only [List.map, rf_cat]; exact Nat.le_of_ble_eq_true rfl))) dLw_law_543 ⟨(by show _ ≤ 600000; omega), (by show _ ≤ 7302250; omega)⟩) hW rfl rfl (fun H locs hW => ?_)
                        refine lv_aload_n hx hb dLw_law_546 rfl (lv_at hl 2 rfl) ?_
                        refine lv_aload_n hx hb dLw_law_547 rfl (lv_at hl 0 rfl) ?_
                        refine lv_iload_n hx hb dLw_law_548 rfl (lv_at hl 3 rfl) ?_
                        refine lv_iconst hx hb dLw_law_549 (v := (1 : Int32)) rfl ?_
                        refine lv_iadd hx hb dLw_law_550 ?_
                        replace h := ob h; obtain ⟨v159, ev159, h⟩ := h
                        refine hq_sld hx hb hX hW ev159 dLw_law_551 ?_
                        refine lv_aload_n hx hb dLw_law_552 rfl (lv_at hl 0 rfl) ?_
                        refine lv_iload_n hx hb dLw_law_553 rfl (lv_at hl 3 rfl) ?_
                        refine lv_iconst hx hb dLw_law_554 (v := (2 : Int32)) rfl ?_
                        refine lv_iadd hx hb dLw_law_555 ?_
                        replace h := ob h; obtain ⟨v160, ev160, h⟩ := h
                        refine hq_sld hx hb hX hW ev160 dLw_law_556 ?_
                        replace h := ob h; obtain ⟨q163, eq163, h⟩ := h
                        replace h := ob h; obtain ⟨⟨v162, S161⟩, eS161, h⟩ := h
                        refine hq_calli (ce := cb) (sl := sb) (va_runV (As := [.int v159, .int v160]) (rest := [.int v157]) ⟨hx, hb, hml, hown, hts⟩ (kMo_line l D tc b S1.1 v159 v160 S156 _ _ eS161) (cwV 2 hts GV_Lw_63_Mo rfl rfl rfl hd_Mo_line_V ⟨Nat.le_of_ble_eq_true rfl, Nat.le_of_ble_eq_true rfl⟩) (hq_preV1 hW eq163 rfl rfl) rfl rfl hl.1 rfl (lv_room (by first | exact Nat.le_of_ble_eq_true rfl | (simp only [List.map, rf_cat]; exact Nat.le_of_ble_eq_true rfl))) dLw_law_557 ⟨(by show _ ≤ 600000; omega), (by show _ ≤ 7302250; omega)⟩) hW rfl rfl (fun H locs hW => ?_)
                        refine lv_icmp_eq hx hb dLw_law_560 (tgt := 700) rfl (fun hc165 => ?_) (fun hc165 => ?_)
                        · replace h := if_t hc165 h
                          refine lv_iinc (k := 3) (v := i3 + 7) (lv' := [(3, .int (i3 + 7)), (0, .ref b0), (1, .ref S.1), (2, .ref S1.1)]) hx hb dLw_law_700 hl rfl rfl (Nat.le_of_ble_eq_true rfl) (by first | rfl | (simp [List.filter, rf_cat] <;> rfl)) (fun ls hl => ?_)
                          refine lv_goto hx hb dLw_law_703 (tgt := 18) rfl ?_
                          exact hin _ (Option.some.inj h).symm cb sb (by omega) (by omega) _ _ _ (lv_sub hl [1, 2, 3, 0] rfl) hW
                        · replace h := if_f hc165 h
                          refine lv_iconst hx hb dLw_law_563 (v := (0 : Int32)) rfl ?_
                          replace h := ob h; obtain ⟨z164, ez164, h⟩ := h
                          exact hq_lwret hargs hbe hx hb hr hlocks (bz_some ez164).2 (congrArg some (hex _ (Option.some.inj h).symm)) (by omega) (by omega) hW dLw_law_564
                      · replace h := if_f hc153 h
                        have hc153n0 := hc153
                        by_cases hc166 : (v7 &&& (15 : Int32)) = 10
                        · replace h := if_t hc166 h
                          refine lv_tableIn hx hb dLw_law_33 (tgt := 565) (by rw [hc166]; decide) (by rw [hc166]; decide) (by rw [hc166] <;> rfl) rfl ?_
                          refine lv_aload_n hx hb dLw_law_565 rfl (lv_at hl 1 rfl) ?_
                          refine lv_aload_n hx hb dLw_law_566 rfl (lv_at hl 0 rfl) ?_
                          refine lv_iload_n hx hb dLw_law_567 rfl (lv_at hl 3 rfl) ?_
                          refine lv_iconst hx hb dLw_law_568 (v := (1 : Int32)) rfl ?_
                          refine lv_iadd hx hb dLw_law_569 ?_
                          replace h := ob h; obtain ⟨v167, ev167, h⟩ := h
                          refine hq_sld hx hb hX hW ev167 dLw_law_570 ?_
                          refine lv_aload_n hx hb dLw_law_571 rfl (lv_at hl 0 rfl) ?_
                          refine lv_iload_n hx hb dLw_law_572 rfl (lv_at hl 3 rfl) ?_
                          refine lv_iconst hx hb dLw_law_573 (v := (2 : Int32)) rfl ?_
                          refine lv_iadd hx hb dLw_law_574 ?_
                          replace h := ob h; obtain ⟨v168, ev168, h⟩ := h
                          refine hq_sld hx hb hX hW ev168 dLw_law_575 ?_
                          replace h := ob h; obtain ⟨q170, e584, h⟩ := h
                          have hJ584 : ∀ q', q' = q170 → ∀ (H : Heap) (locs : List Loc) (ls : Array Slot), lv_has ls 4 [(0, .ref b0), (1, .ref S.1), (2, .ref S1.1), (3, .int i3)] → Wd D vwCl (hTy tc) b S4 s H locs → W p l e room_1 s m args below meth c H locs cb sb (lw_Z below args s) (F0 m 584 ls [.int q', .int v167, .ref S.1]) := by
                            intro i169 hq'; subst hq'
                            intro H locs ls hl hW
                            refine lv_aload_n hx hb dLw_law_584 rfl (lv_at hl 0 rfl) ?_
                            refine lv_iload_n hx hb dLw_law_585 rfl (lv_at hl 3 rfl) ?_
                            refine lv_iconst hx hb dLw_law_586 (v := (3 : Int32)) rfl ?_
                            refine lv_iadd hx hb dLw_law_587 ?_
                            replace h := ob h; obtain ⟨v172, ev172, h⟩ := h
                            refine hq_sld hx hb hX hW ev172 dLw_law_588 ?_
                            replace h := ob h; obtain ⟨q175, eq175, h⟩ := h
                            replace h := ob h; obtain ⟨⟨v174, S173⟩, eS173, h⟩ := h
                            refine hq_calli (ce := cb) (sl := sb) (va_runV (As := [.int v167, .int i169, .int v172]) (rest := []) ⟨hx, hb, hml, hown, hts⟩ (kPl_wire l D tc b S.1 v167 i169 v172 S4 _ _ eS173) (cwV 3 hts GV_Lw_64_Pl rfl rfl rfl hd_Pl_wire_V ⟨Nat.le_of_ble_eq_true rfl, Nat.le_of_ble_eq_true rfl⟩) (hq_preV1 hW eq175 rfl rfl) rfl rfl hl.1 rfl (lv_room (by first | exact Nat.le_of_ble_eq_true rfl | (simp only [List.map, rf_cat]; exact Nat.le_of_ble_eq_true rfl))) dLw_law_589 ⟨(by show _ ≤ 600000; omega), (by show _ ≤ 7302250; omega)⟩) hW rfl rfl (fun H locs hW => ?_)
                            refine lv_aload_n hx hb dLw_law_592 rfl (lv_at hl 2 rfl) ?_
                            refine lv_aload_n hx hb dLw_law_593 rfl (lv_at hl 0 rfl) ?_
                            refine lv_iload_n hx hb dLw_law_594 rfl (lv_at hl 3 rfl) ?_
                            refine lv_iconst hx hb dLw_law_595 (v := (1 : Int32)) rfl ?_
                            refine lv_iadd hx hb dLw_law_596 ?_
                            replace h := ob h; obtain ⟨v176, ev176, h⟩ := h
                            refine hq_sld hx hb hX hW ev176 dLw_law_597 ?_
                            refine lv_aload_n hx hb dLw_law_598 rfl (lv_at hl 0 rfl) ?_
                            refine lv_iload_n hx hb dLw_law_599 rfl (lv_at hl 3 rfl) ?_
                            refine lv_iconst hx hb dLw_law_600 (v := (2 : Int32)) rfl ?_
                            refine lv_iadd hx hb dLw_law_601 ?_
                            replace h := ob h; obtain ⟨v177, ev177, h⟩ := h
                            refine hq_sld hx hb hX hW ev177 dLw_law_602 ?_
                            replace h := ob h; obtain ⟨q179, e611, h⟩ := h
                            have hJ611 : ∀ q', q' = q179 → ∀ (H : Heap) (locs : List Loc) (ls : Array Slot), lv_has ls 4 [(0, .ref b0), (1, .ref S.1), (2, .ref S1.1), (3, .int i3)] → Wd D vwCl (hTy tc) b S173 s H locs → W p l e room_1 s m args below meth c H locs cb sb (lw_Z below args s) (F0 m 611 ls [.int q', .int v176, .ref S1.1, .int v174]) := by
                              intro i178 hq'; subst hq'
                              intro H locs ls hl hW
                              refine lv_aload_n hx hb dLw_law_611 rfl (lv_at hl 0 rfl) ?_
                              refine lv_iload_n hx hb dLw_law_612 rfl (lv_at hl 3 rfl) ?_
                              refine lv_iconst hx hb dLw_law_613 (v := (3 : Int32)) rfl ?_
                              refine lv_iadd hx hb dLw_law_614 ?_
                              replace h := ob h; obtain ⟨v181, ev181, h⟩ := h
                              refine hq_sld hx hb hX hW ev181 dLw_law_615 ?_
                              replace h := ob h; obtain ⟨q184, eq184, h⟩ := h
                              replace h := ob h; obtain ⟨⟨v183, S182⟩, eS182, h⟩ := h
                              refine hq_calli (ce := cb) (sl := sb) (va_runV (As := [.int v176, .int i178, .int v181]) (rest := [.int v174]) ⟨hx, hb, hml, hown, hts⟩ (kMo_wire l D tc b S1.1 v176 i178 v181 S173 _ _ eS182) (cwV 3 hts GV_Lw_68_Mo rfl rfl rfl hd_Mo_wire_V ⟨Nat.le_of_ble_eq_true rfl, Nat.le_of_ble_eq_true rfl⟩) (hq_preV1 hW eq184 rfl rfl) rfl rfl hl.1 rfl (lv_room (by first | exact Nat.le_of_ble_eq_true rfl | (simp only [List.map, rf_cat]; exact Nat.le_of_ble_eq_true rfl))) dLw_law_616 ⟨(by show _ ≤ 600000; omega), (by show _ ≤ 7302250; omega)⟩) hW rfl rfl (fun H locs hW => ?_)
                              refine lv_icmp_eq hx hb dLw_law_619 (tgt := 700) rfl (fun hc186 => ?_) (fun hc186 => ?_)
                              · replace h := if_t hc186 h
                                refine lv_iinc (k := 3) (v := i3 + 7) (lv' := [(3, .int (i3 + 7)), (0, .ref b0), (1, .ref S.1), (2, .ref S1.1)]) hx hb dLw_law_700 hl rfl rfl (Nat.le_of_ble_eq_true rfl) (by first | rfl | (simp [List.filter, rf_cat] <;> rfl)) (fun ls hl => ?_)
                                refine lv_goto hx hb dLw_law_703 (tgt := 18) rfl ?_
                                exact hin _ (Option.some.inj h).symm cb sb (by omega) (by omega) _ _ _ (lv_sub hl [1, 2, 3, 0] rfl) hW
                              · replace h := if_f hc186 h
                                refine lv_iconst hx hb dLw_law_622 (v := (0 : Int32)) rfl ?_
                                replace h := ob h; obtain ⟨z185, ez185, h⟩ := h
                                exact hq_lwret hargs hbe hx hb hr hlocks (bz_some ez185).2 (congrArg some (hex _ (Option.some.inj h).symm)) (by omega) (by omega) hW dLw_law_623
                            clear h; have h := e611; clear e611
                            refine lv_if_eq hx hb dLw_law_603 (tgt := 610) rfl (fun hc180 => ?_) (fun hc180 => ?_)
                            · replace h := if_t hc180 h
                              refine lv_iconst hx hb dLw_law_610 (v := (0 : Int32)) rfl ?_
                              exact hJ611 _ (Option.some.inj h) _ _ _ (lv_sub hl [0, 1, 2, 3] rfl) hW
                            · replace h := if_f hc180 h
                              refine lv_iconst hx hb dLw_law_606 (v := (1 : Int32)) rfl ?_
                              refine lv_goto hx hb dLw_law_607 (tgt := 611) rfl ?_
                              exact hJ611 _ (Option.some.inj h) _ _ _ (lv_sub hl [0, 1, 2, 3] rfl) hW
                          clear h; have h := e584; clear e584
                          refine lv_if_eq hx hb dLw_law_576 (tgt := 583) rfl (fun hc171 => ?_) (fun hc171 => ?_)
                          · replace h := if_t hc171 h
                            refine lv_iconst hx hb dLw_law_583 (v := (0 : Int32)) rfl ?_
                            exact hJ584 _ (Option.some.inj h) _ _ _ (lv_sub hl [0, 1, 2, 3] rfl) hW
                          · replace h := if_f hc171 h
                            refine lv_iconst hx hb dLw_law_579 (v := (1 : Int32)) rfl ?_
                            refine lv_goto hx hb dLw_law_580 (tgt := 584) rfl ?_
                            exact hJ584 _ (Option.some.inj h) _ _ _ (lv_sub hl [0, 1, 2, 3] rfl) hW
                        · replace h := if_f hc166 h
                          have hc166n0 := hc166
                          by_cases hc187 : (v7 &&& (15 : Int32)) = 11
                          · replace h := if_t hc187 h
                            refine lv_tableIn hx hb dLw_law_33 (tgt := 624) (by rw [hc187]; decide) (by rw [hc187]; decide) (by rw [hc187] <;> rfl) rfl ?_
                            refine lv_aload_n hx hb dLw_law_624 rfl (lv_at hl 1 rfl) ?_
                            refine lv_aload_n hx hb dLw_law_625 rfl (lv_at hl 0 rfl) ?_
                            refine lv_iload_n hx hb dLw_law_626 rfl (lv_at hl 3 rfl) ?_
                            refine lv_iconst hx hb dLw_law_627 (v := (1 : Int32)) rfl ?_
                            refine lv_iadd hx hb dLw_law_628 ?_
                            replace h := ob h; obtain ⟨v188, ev188, h⟩ := h
                            refine hq_sld hx hb hX hW ev188 dLw_law_629 ?_
                            refine lv_aload_n hx hb dLw_law_630 rfl (lv_at hl 0 rfl) ?_
                            refine lv_iload_n hx hb dLw_law_631 rfl (lv_at hl 3 rfl) ?_
                            refine lv_iconst hx hb dLw_law_632 (v := (2 : Int32)) rfl ?_
                            refine lv_iadd hx hb dLw_law_633 ?_
                            replace h := ob h; obtain ⟨v189, ev189, h⟩ := h
                            refine hq_sld hx hb hX hW ev189 dLw_law_634 ?_
                            replace h := ob h; obtain ⟨q192, eq192, h⟩ := h
                            replace h := ob h; obtain ⟨⟨v191, S190⟩, eS190, h⟩ := h
                            refine hq_calli (ce := cb) (sl := sb) (va_runV (As := [.int v188, .int v189]) (rest := []) ⟨hx, hb, hml, hown, hts⟩ (kPl_sample l D tc b S.1 v188 v189 S4 _ _ eS190) (cwV 2 hts GV_Lw_69_Pl rfl rfl rfl hd_Pl_sample_V ⟨Nat.le_of_ble_eq_true rfl, Nat.le_of_ble_eq_true rfl⟩) (hq_preV1 hW eq192 rfl rfl) rfl rfl hl.1 rfl (lv_room (by first | exact Nat.le_of_ble_eq_true rfl | (simp only [List.map, rf_cat]; exact Nat.le_of_ble_eq_true rfl))) dLw_law_635 ⟨(by show _ ≤ 600000; omega), (by show _ ≤ 7302250; omega)⟩) hW rfl rfl (fun H locs hW => ?_)
                            refine lv_aload_n hx hb dLw_law_638 rfl (lv_at hl 2 rfl) ?_
                            refine lv_aload_n hx hb dLw_law_639 rfl (lv_at hl 0 rfl) ?_
                            refine lv_iload_n hx hb dLw_law_640 rfl (lv_at hl 3 rfl) ?_
                            refine lv_iconst hx hb dLw_law_641 (v := (1 : Int32)) rfl ?_
                            refine lv_iadd hx hb dLw_law_642 ?_
                            replace h := ob h; obtain ⟨v193, ev193, h⟩ := h
                            refine hq_sld hx hb hX hW ev193 dLw_law_643 ?_
                            refine lv_aload_n hx hb dLw_law_644 rfl (lv_at hl 0 rfl) ?_
                            refine lv_iload_n hx hb dLw_law_645 rfl (lv_at hl 3 rfl) ?_
                            refine lv_iconst hx hb dLw_law_646 (v := (2 : Int32)) rfl ?_
                            refine lv_iadd hx hb dLw_law_647 ?_
                            replace h := ob h; obtain ⟨v194, ev194, h⟩ := h
                            refine hq_sld hx hb hX hW ev194 dLw_law_648 ?_
                            replace h := ob h; obtain ⟨q197, eq197, h⟩ := h
                            replace h := ob h; obtain ⟨⟨v196, S195⟩, eS195, h⟩ := h
                            refine hq_calli (ce := cb) (sl := sb) (va_runV (As := [.int v193, .int v194]) (rest := [.int v191]) ⟨hx, hb, hml, hown, hts⟩ (kMo_sample l D tc b S1.1 v193 v194 S190 _ _ eS195) (cwV 2 hts GV_Lw_72_Mo rfl rfl rfl hd_Mo_sample_V ⟨Nat.le_of_ble_eq_true rfl, Nat.le_of_ble_eq_true rfl⟩) (hq_preV1 hW eq197 rfl rfl) rfl rfl hl.1 rfl (lv_room (by first | exact Nat.le_of_ble_eq_true rfl | (simp only [List.map, rf_cat]; exact Nat.le_of_ble_eq_true rfl))) dLw_law_649 ⟨(by show _ ≤ 600000; omega), (by show _ ≤ 7302250; omega)⟩) hW rfl rfl (fun H locs hW => ?_)
                            refine lv_icmp_eq hx hb dLw_law_652 (tgt := 700) rfl (fun hc199 => ?_) (fun hc199 => ?_)
                            · replace h := if_t hc199 h
                              refine lv_iinc (k := 3) (v := i3 + 7) (lv' := [(3, .int (i3 + 7)), (0, .ref b0), (1, .ref S.1), (2, .ref S1.1)]) hx hb dLw_law_700 hl rfl rfl (Nat.le_of_ble_eq_true rfl) (by first | rfl | (simp [List.filter, rf_cat] <;> rfl)) (fun ls hl => ?_)
                              refine lv_goto hx hb dLw_law_703 (tgt := 18) rfl ?_
                              exact hin _ (Option.some.inj h).symm cb sb (by omega) (by omega) _ _ _ (lv_sub hl [1, 2, 3, 0] rfl) hW
                            · replace h := if_f hc199 h
                              refine lv_iconst hx hb dLw_law_655 (v := (0 : Int32)) rfl ?_
                              replace h := ob h; obtain ⟨z198, ez198, h⟩ := h
                              exact hq_lwret hargs hbe hx hb hr hlocks (bz_some ez198).2 (congrArg some (hex _ (Option.some.inj h).symm)) (by omega) (by omega) hW dLw_law_656
                          · replace h := if_f hc187 h
                            have hc187n0 := hc187
                            by_cases hc200 : (v7 &&& (15 : Int32)) = 12
                            · replace h := if_t hc200 h
                              refine lv_tableIn hx hb dLw_law_33 (tgt := 657) (by rw [hc200]; decide) (by rw [hc200]; decide) (by rw [hc200] <;> rfl) rfl ?_
                              refine lv_aload_n hx hb dLw_law_657 rfl (lv_at hl 1 rfl) ?_
                              refine lv_aload_n hx hb dLw_law_658 rfl (lv_at hl 0 rfl) ?_
                              refine lv_iload_n hx hb dLw_law_659 rfl (lv_at hl 3 rfl) ?_
                              refine lv_iconst hx hb dLw_law_660 (v := (1 : Int32)) rfl ?_
                              refine lv_iadd hx hb dLw_law_661 ?_
                              replace h := ob h; obtain ⟨v201, ev201, h⟩ := h
                              refine hq_sld hx hb hX hW ev201 dLw_law_662 ?_
                              refine lv_aload_n hx hb dLw_law_663 rfl (lv_at hl 0 rfl) ?_
                              refine lv_iload_n hx hb dLw_law_664 rfl (lv_at hl 3 rfl) ?_
                              refine lv_iconst hx hb dLw_law_665 (v := (2 : Int32)) rfl ?_
                              refine lv_iadd hx hb dLw_law_666 ?_
                              replace h := ob h; obtain ⟨v202, ev202, h⟩ := h
                              refine hq_sld hx hb hX hW ev202 dLw_law_667 ?_
                              refine lv_aload_n hx hb dLw_law_668 rfl (lv_at hl 0 rfl) ?_
                              refine lv_iload_n hx hb dLw_law_669 rfl (lv_at hl 3 rfl) ?_
                              refine lv_iconst hx hb dLw_law_670 (v := (3 : Int32)) rfl ?_
                              refine lv_iadd hx hb dLw_law_671 ?_
                              replace h := ob h; obtain ⟨v203, ev203, h⟩ := h
                              refine hq_sld hx hb hX hW ev203 dLw_law_672 ?_
                              replace h := ob h; obtain ⟨q206, eq206, h⟩ := h
                              replace h := ob h; obtain ⟨⟨v205, S204⟩, eS204, h⟩ := h
                              refine hq_calli (ce := cb) (sl := sb) (va_runV (As := [.int v201, .int v202, .int v203]) (rest := []) ⟨hx, hb, hml, hown, hts⟩ (kPl_samples l D tc b S.1 v201 v202 v203 S4 _ _ eS204) (cwV 3 hts GV_Lw_73_Pl rfl rfl rfl hd_Pl_samples_V ⟨Nat.le_of_ble_eq_true rfl, Nat.le_of_ble_eq_true rfl⟩) (hq_preV1 hW eq206 rfl rfl) rfl rfl hl.1 rfl (lv_room (by first | exact Nat.le_of_ble_eq_true rfl | (simp only [List.map, rf_cat]; exact Nat.le_of_ble_eq_true rfl))) dLw_law_673 ⟨(by show _ ≤ 600000; omega), (by show _ ≤ 7302250; omega)⟩) hW rfl rfl (fun H locs hW => ?_)
                              refine lv_aload_n hx hb dLw_law_676 rfl (lv_at hl 2 rfl) ?_
                              refine lv_aload_n hx hb dLw_law_677 rfl (lv_at hl 0 rfl) ?_
                              refine lv_iload_n hx hb dLw_law_678 rfl (lv_at hl 3 rfl) ?_
                              refine lv_iconst hx hb dLw_law_679 (v := (1 : Int32)) rfl ?_
                              refine lv_iadd hx hb dLw_law_680 ?_
                              replace h := ob h; obtain ⟨v207, ev207, h⟩ := h
                              refine hq_sld hx hb hX hW ev207 dLw_law_681 ?_
                              refine lv_aload_n hx hb dLw_law_682 rfl (lv_at hl 0 rfl) ?_
                              refine lv_iload_n hx hb dLw_law_683 rfl (lv_at hl 3 rfl) ?_
                              refine lv_iconst hx hb dLw_law_684 (v := (2 : Int32)) rfl ?_
                              refine lv_iadd hx hb dLw_law_685 ?_
                              replace h := ob h; obtain ⟨v208, ev208, h⟩ := h
                              refine hq_sld hx hb hX hW ev208 dLw_law_686 ?_
                              refine lv_aload_n hx hb dLw_law_687 rfl (lv_at hl 0 rfl) ?_
                              refine lv_iload_n hx hb dLw_law_688 rfl (lv_at hl 3 rfl) ?_
                              refine lv_iconst hx hb dLw_law_689 (v := (3 : Int32)) rfl ?_
                              refine lv_iadd hx hb dLw_law_690 ?_
                              replace h := ob h; obtain ⟨v209, ev209, h⟩ := h
                              refine hq_sld hx hb hX hW ev209 dLw_law_691 ?_
                              replace h := ob h; obtain ⟨q212, eq212, h⟩ := h
                              replace h := ob h; obtain ⟨⟨v211, S210⟩, eS210, h⟩ := h
                              refine hq_calli (ce := cb) (sl := sb) (va_runV (As := [.int v207, .int v208, .int v209]) (rest := [.int v205]) ⟨hx, hb, hml, hown, hts⟩ (kMo_samples l D tc b S1.1 v207 v208 v209 S204 _ _ eS210) (cwV 3 hts GV_Lw_76_Mo rfl rfl rfl hd_Mo_samples_V ⟨Nat.le_of_ble_eq_true rfl, Nat.le_of_ble_eq_true rfl⟩) (hq_preV1 hW eq212 rfl rfl) rfl rfl hl.1 rfl (lv_room (by first | exact Nat.le_of_ble_eq_true rfl | (simp only [List.map, rf_cat]; exact Nat.le_of_ble_eq_true rfl))) dLw_law_692 ⟨(by show _ ≤ 600000; omega), (by show _ ≤ 7302250; omega)⟩) hW rfl rfl (fun H locs hW => ?_)
                              refine lv_icmp_eq hx hb dLw_law_695 (tgt := 700) rfl (fun hc214 => ?_) (fun hc214 => ?_)
                              · replace h := if_t hc214 h
                                refine lv_iinc (k := 3) (v := i3 + 7) (lv' := [(3, .int (i3 + 7)), (0, .ref b0), (1, .ref S.1), (2, .ref S1.1)]) hx hb dLw_law_700 hl rfl rfl (Nat.le_of_ble_eq_true rfl) (by first | rfl | (simp [List.filter, rf_cat] <;> rfl)) (fun ls hl => ?_)
                                refine lv_goto hx hb dLw_law_703 (tgt := 18) rfl ?_
                                exact hin _ (Option.some.inj h).symm cb sb (by omega) (by omega) _ _ _ (lv_sub hl [1, 2, 3, 0] rfl) hW
                              · replace h := if_f hc214 h
                                refine lv_iconst hx hb dLw_law_698 (v := (0 : Int32)) rfl ?_
                                replace h := ob h; obtain ⟨z213, ez213, h⟩ := h
                                exact hq_lwret hargs hbe hx hb hr hlocks (bz_some ez213).2 (congrArg some (hex _ (Option.some.inj h).symm)) (by omega) (by omega) hW dLw_law_699
                            · replace h := if_f hc200 h
                              have hc200n0 := hc200
                              refine lv_tableOut hx hb dLw_law_33 (tgt := 700) (by have g0 := lv_neT hc8n0 (a := 0) rfl; have g1 := lv_neT hc23n0 (a := 1) rfl; have g2 := lv_neT hc42n0 (a := 2) rfl; have g3 := lv_neT hc59n0 (a := 3) rfl; have g4 := lv_neT hc74n0 (a := 4) rfl; have g5 := lv_neT hc89n0 (a := 5) rfl; have g6 := lv_neT hc110n0 (a := 6) rfl; have g7 := lv_neT hc131n0 (a := 7) rfl; have g8 := lv_neT hc140n0 (a := 8) rfl; have g9 := lv_neT hc153n0 (a := 9) rfl; have g10 := lv_neT hc166n0 (a := 10) rfl; have g11 := lv_neT hc187n0 (a := 11) rfl; have g12 := lv_neT hc200n0 (a := 12) rfl; omega) rfl ?_
                              refine lv_iinc (k := 3) (v := i3 + 7) (lv' := [(3, .int (i3 + 7)), (0, .ref b0), (1, .ref S.1), (2, .ref S1.1)]) hx hb dLw_law_700 hl rfl rfl (Nat.le_of_ble_eq_true rfl) (by first | rfl | (simp [List.filter, rf_cat] <;> rfl)) (fun ls hl => ?_)
                              refine lv_goto hx hb dLw_law_703 (tgt := 18) rfl ?_
                              exact hin _ (Option.some.inj h).symm cb sb (by omega) (by omega) _ _ _ (lv_sub hl [1, 2, 3, 0] rfl) hW
