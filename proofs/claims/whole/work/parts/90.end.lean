/-! The end: what the tables say at the entry; the walk; the claim. -/
set_option maxRecDepth 100000 in
theorem KI_Fr : Cond.instantiable "SerialPlant$Frame" 2 ∈ lwG := lw_t 71 rfl rfl
set_option maxRecDepth 100000 in
theorem KI_Hi : Cond.instantiable "SerialPlant$History" 6 ∈ lwG := lw_t 134 rfl rfl
set_option maxRecDepth 100000 in
theorem KI_Li : Cond.instantiable "SerialPlant$Line" 9 ∈ lwG := lw_t 59 rfl rfl
set_option maxRecDepth 100000 in
theorem KI_Po : Cond.instantiable "SerialPlant$Poll" 8 ∈ lwG := lw_t 228 rfl rfl
set_option maxRecDepth 100000 in
theorem KI_Re : Cond.instantiable "SerialPlant$Request" 9 ∈ lwG := lw_t 275 rfl rfl
set_option maxRecDepth 100000 in
theorem KI_Sl : Cond.instantiable "SerialPlant$Slave" 9 ∈ lwG := lw_t 21 rfl rfl
set_option maxRecDepth 100000 in
theorem KI_Wa : Cond.instantiable "SerialPlant$Way" 2 ∈ lwG := lw_t 65 rfl rfl
set_option maxRecDepth 100000 in
theorem KI_Pl : Cond.instantiable "SerialPlant" 8 ∈ lwG := lw_t 12 rfl rfl
set_option maxRecDepth 100000 in
theorem KI_Mo : Cond.instantiable "SerialPlantModel" 41 ∈ lwG := lw_t 597 rfl rfl
set_option maxRecDepth 100000 in
theorem KA_0 : (Jvm.Cond.arrayClass Jvm.ClassFile.FieldType.int) ∈ tables_1 := List.mem_of_getElem? (i := 56) rfl
set_option maxRecDepth 100000 in
theorem KA_1 : (Jvm.Cond.arrayClass Jvm.ClassFile.FieldType.boolean) ∈ tables_1 := List.mem_of_getElem? (i := 726) rfl
set_option maxRecDepth 100000 in
theorem KA_2 : (Jvm.Cond.arrayClass Jvm.ClassFile.FieldType.long) ∈ tables_1 := List.mem_of_getElem? (i := 727) rfl
set_option maxRecDepth 100000 in
theorem KA_3 : (Jvm.Cond.arrayOver (Jvm.ClassFile.FieldType.object "SerialPlant$Slave")) ∈ tables_1 := List.mem_of_getElem? (i := 20) rfl
set_option maxRecDepth 100000 in
theorem KA_4 : (Jvm.Cond.arrayOver (Jvm.ClassFile.FieldType.object "SerialPlant$Line")) ∈ tables_1 := List.mem_of_getElem? (i := 58) rfl
set_option maxRecDepth 100000 in
theorem KA_5 : (Jvm.Cond.arrayOver (Jvm.ClassFile.FieldType.object "SerialPlant$Request")) ∈ tables_1 := List.mem_of_getElem? (i := 130) rfl
set_option maxRecDepth 100000 in
theorem KA_6 : (Jvm.Cond.arrayOver (Jvm.ClassFile.FieldType.object "SerialPlant$Poll")) ∈ tables_1 := List.mem_of_getElem? (i := 132) rfl
set_option maxRecDepth 100000 in
theorem KA_7 : (Jvm.Cond.arrayOver (Jvm.ClassFile.FieldType.object "SerialPlant$Job")) ∈ tables_1 := List.mem_of_getElem? (i := 93) rfl
set_option maxRecDepth 100000 in
theorem KN_0 : (Jvm.Cond.methodLinkNest "SerialPlant$Line" (11 : Nat) ({ cls := "SerialPlant$Way", name := "<init>", desc := "()V" } : Jvm.MethodName) "SerialPlant") ∈ tables_1 := List.mem_of_getElem? (i := 66) rfl
set_option maxRecDepth 100000 in
theorem KN_1 : (Jvm.Cond.methodLinkNest "SerialPlant$Way" (9 : Nat) ({ cls := "SerialPlant$Frame", name := "<init>", desc := "()V" } : Jvm.MethodName) "SerialPlant") ∈ tables_1 := List.mem_of_getElem? (i := 72) rfl
set_option maxRecDepth 100000 in
theorem KN_2 : (Jvm.Cond.methodLinkNest "SerialPlant" (39 : Nat) ({ cls := "SerialPlant$History", name := "<init>", desc := "()V" } : Jvm.MethodName) "SerialPlant") ∈ tables_1 := List.mem_of_getElem? (i := 135) rfl
set_option maxRecDepth 100000 in
theorem KN_3 : (Jvm.Cond.declares ({ cls := "SerialPlant$Job", name := "take", desc := "(LSerialPlant$Frame;I)V" } : Jvm.MethodName)) ∈ tables_1 := List.mem_of_getElem? (i := 362) rfl
set_option maxRecDepth 100000 in
theorem KN_4 : (Jvm.Cond.declares ({ cls := "SerialPlant$Job", name := "goUnanswered", desc := "()V" } : Jvm.MethodName)) ∈ tables_1 := List.mem_of_getElem? (i := 554) rfl
set_option maxRecDepth 100000 in
theorem KN_5 : (Jvm.Cond.castable "SerialPlant$Poll" "SerialPlant$Job") ∈ tables_1 := List.mem_of_getElem? (i := 888) rfl
set_option maxRecDepth 100000 in
theorem KN_6 : (Jvm.Cond.castable "SerialPlant$Request" "SerialPlant$Job") ∈ tables_1 := List.mem_of_getElem? (i := 889) rfl
/-- what the tables say, at the law's entry -/
theorem lw_know {s : State} {args : Array Value} (hts : ∀ w ∈ lw_tbl, w.before args s = true) : ∃ (D : va_G) (tc : Nat → ClassId), va_K D vwCl (hTy tc) s := by
  have hG : ∀ w ∈ lwG, w.before args s = true := fun w hw => hts w (List.mem_filter.mp hw).1
  obtain ⟨c0, i0, k0⟩ := u_known (n := 2) hG inFr (hG _ KI_Fr)
  obtain ⟨c1, i1, k1⟩ := u_known (n := 6) hG inHi (hG _ KI_Hi)
  obtain ⟨c2, i2, k2⟩ := u_known (n := 9) hG inLi (hG _ KI_Li)
  obtain ⟨c3, i3, k3⟩ := u_known (n := 8) hG inPo (hG _ KI_Po)
  obtain ⟨c4, i4, k4⟩ := u_known (n := 9) hG inRe (hG _ KI_Re)
  obtain ⟨c5, i5, k5⟩ := u_known (n := 9) hG inSl (hG _ KI_Sl)
  obtain ⟨c6, i6, k6⟩ := u_known (n := 2) hG inWa (hG _ KI_Wa)
  obtain ⟨c7, i7, k7⟩ := u_known (n := 8) hG inPl (hG _ KI_Pl)
  obtain ⟨c8, i8, k8⟩ := u_known (n := 41) hG inMo (hG _ KI_Mo)
  have hp : ∀ ty : FieldType, (Cond.arrayClass ty).before args s = true → (∀ C, ty ≠ .object C) → ∃ c : ClassId, ArrOfT s c ty ∧ va_RA s c ty := by
    intro ty h hno
    obtain ⟨c, k, comp, h1, h2, h3⟩ := Cond.arrayClass_spec h
    refine ⟨c, fun n z => ⟨fun k h => (by cases h), k, h2, comp, h3⟩, ?_⟩
    cases ty <;> first | exact h1 | exact absurd rfl (hno _)
  have ho : ∀ C : String, (Cond.arrayOver (.object C)).before args s = true → ∃ c : ClassId, ArrOfT s c (.object C) ∧ va_RA s c (.object C) := by
    intro C h
    obtain ⟨comp, c, k, h1, -, h3, h4, h5⟩ := Cond.arrayOver_spec h
    exact ⟨c, fun n z => ⟨fun k h => (by cases h), k, h3, comp, h4⟩, k, comp, h3, h4, h1, h5⟩
  obtain ⟨t0, q0⟩ := hp .int (hts _ (List.mem_append_right _ KA_0)) (fun _ h => by cases h)
  obtain ⟨t1, q1⟩ := hp .boolean (hts _ (List.mem_append_right _ KA_1)) (fun _ h => by cases h)
  obtain ⟨t2, q2⟩ := hp .long (hts _ (List.mem_append_right _ KA_2)) (fun _ h => by cases h)
  obtain ⟨t3, q3⟩ := ho _ (hts _ (List.mem_append_right _ KA_3))
  obtain ⟨t4, q4⟩ := ho _ (hts _ (List.mem_append_right _ KA_4))
  obtain ⟨t5, q5⟩ := ho _ (hts _ (List.mem_append_right _ KA_5))
  obtain ⟨t6, q6⟩ := ho _ (hts _ (List.mem_append_right _ KA_6))
  obtain ⟨t7, q7⟩ := ho _ (hts _ (List.mem_append_right _ KA_7))
  refine ⟨(fun k => [c0, c1, c2, c3, c4, c5, c6, c7, c8].getD k 0, fun k => [i0, i1, i2, i3, i4, i5, i6, i7, i8].getD k i0), fun k => [t0, t1, t2, t3, t4, t5, t6, t7].getD k 0, ?_, ?_⟩
  · intro k q hk
    match k, hk with
    | 0, hk => cases hk; exact k0
    | 1, hk => cases hk; exact k1
    | 2, hk => cases hk; exact k2
    | 3, hk => cases hk; exact k3
    | 4, hk => cases hk; exact k4
    | 5, hk => cases hk; exact k5
    | 6, hk => cases hk; exact k6
    | 7, hk => cases hk; exact k7
    | 8, hk => cases hk; exact k8
    | n + 9, hk => simp at hk
  · intro k q hk
    match k, hk with
    | 0, hk => cases hk; exact q0
    | 1, hk => cases hk; exact q1
    | 2, hk => cases hk; exact q2
    | 3, hk => cases hk; exact q3
    | 4, hk => cases hk; exact q4
    | 5, hk => cases hk; exact q5
    | 6, hk => cases hk; exact q6
    | 7, hk => cases hk; exact q7
    | n + 8, hk => simp at hk
theorem lw_nw {s : State} {args : Array Value} (hts : ∀ w ∈ lw_tbl, w.before args s = true) : NW s :=
  ⟨⟨va_Nw.of rfl (hts _ (List.mem_append_right _ KN_0)), va_Nw.of rfl (hts _ (List.mem_append_right _ KN_1)), va_Nw.of rfl (hts _ (List.mem_append_right _ KN_2))⟩, ⟨va_Nw.of rfl (hts _ (List.mem_append_right _ KN_3)), va_Nw.of rfl (hts _ (List.mem_append_right _ KN_4))⟩, ⟨va_Nw.of rfl (hts _ (List.mem_append_right _ KN_5)), va_Nw.of rfl (hts _ (List.mem_append_right _ KN_6))⟩, va_AO.of (hts _ (List.mem_append_right _ KA_3)), va_AO.of (hts _ (List.mem_append_right _ KA_4)), va_AO.of (hts _ (List.mem_append_right _ KA_7)), va_AO.of (hts _ (List.mem_append_right _ KA_5)), va_AO.of (hts _ (List.mem_append_right _ KA_6))⟩
theorem lw_begin {D : va_G} {tys : List (ClassId × FieldType)} {s : State} (hK : va_K D vwCl tys s) (hN : NW s) : Wd D vwCl tys s.heap.size (s.heap.size, fun _ => none) s s.heap [] := by
  refine ⟨⟨rfl, ⟨Nat.le_refl _, (fun a x h => by cases h), fun a h1 h2 => ?_⟩, Nat.le_refl _, hN⟩, fun k q hk => ?_, hK, va_S.rf⟩
  · exact absurd h2 (Nat.not_lt.mpr h1)
  · have h : (([] : va_W))[k]? = some q := by simpa [hq_ws] using hk
    simp at h
theorem whole_start {p : Program} {e : Env} {s : State} {m : MethodId} {below : List Frame} {meth : Method} {c : Code} (l : Launch) {b L : Nat} {xs : Nat → Int32} (hL : L ≤ 3584) (C0 : lw_At p s m meth c b L xs) : W p l e room_1 s m #[Value.ref b] below meth c s.heap [] 0 0 (lw_Z below #[Value.ref b] s) (entryFrame m ([Value.ref b] : List Value).toArray 4) := by
  obtain ⟨hx, hb, hr, hml, hown, hts, hX, hbl, hlocks, -⟩ := C0
  obtain ⟨Sz, h⟩ := law_pure L hL xs s.heap.size
  obtain ⟨D, tc, hK⟩ := lw_know hts
  have hl := lv_entry ([Value.ref b] : List Value) (n := 4) (Nat.le_of_ble_eq_true rfl)
  rw [lg_entry_eq]
  generalize (lg_sl ([Value.ref b] : List Value) ++ List.replicate (4 - (lg_sl ([Value.ref b] : List Value)).length) Slot.unset).toArray = ls at hl ⊢
  exact law_walk l D tc h rfl (Nat.le_refl _) hx hb hr hml hown (fun w hw => hts w (List.mem_filter.mp hw).1) ⟨hX, hbl⟩ hlocks hl (lw_begin hK (lw_nw hts))
set_option maxHeartbeats 4000000 in
theorem lw_walk (l : Launch) (b : Addr) (xs : List Int32) : MetFree l x (headSpec (Jvm.Cond.code x code maxLocals ret :: tables_1) room_1) (lw_P b xs) (fun _ _ _ _ _ => True) lw_Q := by
  refine MetFree.of_bodyS (code := code) (maxLocals := maxLocals) (ret := ret) (by decide) ?_ ?_
  · intro args s m h hn
    obtain ⟨meth, c, h1, h2, h3, h4, h5, h6, -, -⟩ := Cond.code_spec hn (atoms_spec (ws := Jvm.Cond.code x code maxLocals ret :: tables_1) h _ List.mem_cons_self)
    exact ⟨meth, c, h1, h2, h3, h4, h5, h6⟩
  · intro p e s m args below meth c s₁ B hml0 hP _
    obtain ⟨rfl, hx, hbd, hgv⟩ := hP
    obtain ⟨scr, harrAt, hlist, hof, hsmall⟩ := hx
    obtain ⟨hcb, hkn, -, -⟩ := State.arrayAt?_spec harrAt
    have hown : s.vm.findClass R_law = some m.cls := findClass_of_methodNamed B.named
    have hts0 : ∀ c ∈ (Jvm.Cond.code x code maxLocals ret :: tables_1), c.before #[Value.ref b] s = true := atoms_spec (ws := Jvm.Cond.code x code maxLocals ret :: tables_1) B.pre
    have hts : ∀ w ∈ lw_tbl, w.before #[Value.ref b] s = true := k2_hts_sels lw_privs (fun w hw => hts0 w (List.mem_cons_of_mem _ hw)) lw_privs_ok
    have hml : c.maxLocals = 4 := B.maxLocals_eq (hts0 _ List.mem_cons_self)
    have X₀ : Stand p l e room_1 s m #[Value.ref b] below meth c s₁ [] 0 0 := Stand.of_body B
    have hh0 : s₁.heap = s.heap := by rw [B.state]; rfl
    have hsz : scr.slots.size = xs.length := by rw [← Array.length_toList, hlist, List.length_map]
    have hval : ∀ j : Nat, j < xs.length → scr.slots[j]? = some (.int (xs.getD j 0)) := fun j hj => by
      rw [← Array.getElem?_toList, hlist]
      simp [hj]
    have hbl : b < s.heap.size := (Array.getElem?_eq_some_iff.mp hcb).1
    have hX : va_X b xs.length (fun j => xs.getD j 0) s s.heap := ⟨scr, hcb, hof, hkn, hsz, hval⟩
    have K : W p l e room_1 s m #[Value.ref b] below meth c s₁.heap [] 0 0 (lw_Z below #[Value.ref b] s) (entryFrame m ([Value.ref b] : List Value).toArray 4) := by
      rw [hh0]
      exact whole_start l hbd ⟨B.exec, B.bytes, B.returns, hml, hown, hts, hX, hbl, B.notSynchronized, hgv⟩
    obtain ⟨t, a1, o, b1, b2, b3⟩ := K s₁ rfl X₀
    exact ⟨t, o, a1, b1, b2, b3⟩
theorem lw_pre_spec {args : Array Value} {s : State} (h : (Jvm.Cond.and given_1 narrow_1).before args s = true) (hr : rest_1_c.before args s = true) : ∃ (b : Addr) (xs : List Int32), lw_P b xs args s := by
  have hs := flat_of_before _ h
  have hq := flat_of_before _ hr
  have hc : (Cond.count 1).before args s = true := hs _ (by decide +kernel)
  have harr : (Cond.arrayOf (.arg 0) .int).before args s = true := hs _ (by decide +kernel)
  have hle : (Cond.le (.length (.arg 0)) (.int 3584)).before args s = true := hs _ (by decide +kernel)
  have hlen : (Cond.isInt (.length (.arg 0))).before args s = true := hq _ (by decide +kernel)
  have hall : (Cond.all (.arg 0) (.isInt (.elem (.arg 0) (.index 0)))).before args s = true := hq _ (by decide +kernel)
  obtain ⟨b, xs, hb, hx⟩ := State.ints_of_pre rfl harr hlen hall
  have hsm : xs.length < 2 ^ 31 := hx.choose_spec.2.2.2
  have hev : (Term.length (.arg 0)).eval args s none [] s = some (.int xs.length.toInt32) := hx.length_eval hb
  have hv := Cond.le_ints hev (show (Term.int 3584).eval args s none [] s = some (.int 3584) from rfl)
  have hd : xs.length.toInt32 ≤ 3584 := by
    simpa [Cond.before, Cond.holds, hv] using hle
  have hN : xs.length ≤ 3584 := (Int32.ofNat_le_ofNat hsm (by decide)).mp (show Int32.ofNat xs.length ≤ Int32.ofNat 3584 from hd)
  exact ⟨b, xs, Cond.one_arg hc (show args[0]? = some (.ref b) from hb), hx, hN, h⟩
theorem lw_comes (l : Launch) : Comes l x (Jvm.Cond.code x code maxLocals ret :: tables_1) room_1 (fun tb e args s => Calls_1 tb e args s ∧ rest_1 tb e args s ∧ Pre_1 tb e args s)
    (fun _ _ args s o t => lw_Q args s o t) := by
  intro p e ha hc hk s m args below hf hfit hheap happ hpre
  obtain ⟨b, xs, hP⟩ := lw_pre_spec hpre.2.2 hpre.2.1
  obtain ⟨k, o, h1, h2, h3, hQ⟩ := lw_walk l b xs p e ha hc hk s m args below hf ((Spec.applies_iff_loose hf).mp happ).1 hP trivial
  exact ⟨k, o, h1, h2, h3, hQ⟩
theorem lw_frame {s t : State} {o : Outcome} {args : Array Value} (h : Framed s o t [] 600000 7302250) :
    Framed s o t (fieldLocs frame_1_writes args s ++ arrayLocs frame_1_arrays args s ++ staticLocs frame_1_statics s) 600000 7302250 := h
theorem lw_limb (L : Cond) (hL : ∀ (args : Array Value) (s t : State), L.after args s (.returned (some (.int 1))) t = true) :
    ArmFor flags0 classFile x code maxLocals ret World_1 tables_1 room_1 Calls_1 rest_1 Pre_1
      (fun tb e a s o t => postC L tb e a s o t ∧ Framed s o t (fieldLocs frame_1_writes a s ++ arrayLocs frame_1_arrays a s ++ staticLocs frame_1_statics s) 600000 7302250) := by
  intro l _ _ _ p e ha hc hk s m args below hf hfit hheap happ hpre
  obtain ⟨k, o, h1, h2, h3, rfl, hF⟩ := lw_comes l p e ha hc hk s m args below hf hfit hheap happ hpre
  exact ⟨k, _, h1, h2, h3, hL args s _, lw_frame hF⟩
theorem i_vc : Claimed_1_1 ∧ Claimed_1_2 := ⟨lw_limb limb_1_1 (fun args s t => by simp [limb_1_1, Cond.after, Cond.holds, Cond.value]), lw_limb limb_1_2 (fun args s t => Cond.after_iff.mpr (by
  first | (rw [show limb_1_2 = Cond.eq .result (.int 1) from rfl, Cond.eq_ints (x := 1) (y := 1) rfl rfl]; simp; done) | (simp [limb_1_2, Cond.value, Term.eval]; done)))⟩
