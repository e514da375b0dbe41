theorem dFr_init_0 : decode cFr_init 0 = .ok (.aload_n 0, 1) := by decide +kernel
theorem dFr_init_1 : decode cFr_init 1 = .ok (.invokespecial 3, 3) := by decide +kernel
theorem dFr_init_4 : decode cFr_init 4 = .ok (.aload_n 0, 1) := by decide +kernel
theorem dFr_init_5 : decode cFr_init 5 = .ok (.bipush 41, 2) := by decide +kernel
theorem dFr_init_7 : decode cFr_init 7 = .ok (.newarray .int, 2) := by decide +kernel
theorem dFr_init_9 : decode cFr_init 9 = .ok (.putfield 9, 3) := by decide +kernel
theorem dFr_init_12 : decode cFr_init 12 = .ok (.return_, 1) := by decide +kernel
theorem dFr_byteAt_0 : decode cFr_byteAt 0 = .ok (.iload_n 1, 1) := by decide +kernel
theorem dFr_byteAt_1 : decode cFr_byteAt 1 = .ok (.ifCond .lt 26, 3) := by decide +kernel
theorem dFr_byteAt_4 : decode cFr_byteAt 4 = .ok (.iload_n 1, 1) := by decide +kernel
theorem dFr_byteAt_5 : decode cFr_byteAt 5 = .ok (.aload_n 0, 1) := by decide +kernel
theorem dFr_byteAt_6 : decode cFr_byteAt 6 = .ok (.getfield 15, 3) := by decide +kernel
theorem dFr_byteAt_9 : decode cFr_byteAt 9 = .ok (.if_icmp .ge 18, 3) := by decide +kernel
theorem dFr_byteAt_12 : decode cFr_byteAt 12 = .ok (.iload_n 1, 1) := by decide +kernel
theorem dFr_byteAt_13 : decode cFr_byteAt 13 = .ok (.bipush 41, 2) := by decide +kernel
theorem dFr_byteAt_15 : decode cFr_byteAt 15 = .ok (.if_icmp .ge 12, 3) := by decide +kernel
theorem dFr_byteAt_18 : decode cFr_byteAt 18 = .ok (.aload_n 0, 1) := by decide +kernel
theorem dFr_byteAt_19 : decode cFr_byteAt 19 = .ok (.getfield 9, 3) := by decide +kernel
theorem dFr_byteAt_22 : decode cFr_byteAt 22 = .ok (.iload_n 1, 1) := by decide +kernel
theorem dFr_byteAt_23 : decode cFr_byteAt 23 = .ok (.iaload, 1) := by decide +kernel
theorem dFr_byteAt_24 : decode cFr_byteAt 24 = .ok (.goto 4, 3) := by decide +kernel
theorem dFr_byteAt_27 : decode cFr_byteAt 27 = .ok (.iconst (-1), 1) := by decide +kernel
theorem dFr_byteAt_28 : decode cFr_byteAt 28 = .ok (.ireturn, 1) := by decide +kernel
theorem dFr_wordAt_0 : decode cFr_wordAt 0 = .ok (.iload_n 1, 1) := by decide +kernel
theorem dFr_wordAt_1 : decode cFr_wordAt 1 = .ok (.ifCond .lt 40, 3) := by decide +kernel
theorem dFr_wordAt_4 : decode cFr_wordAt 4 = .ok (.iload_n 1, 1) := by decide +kernel
theorem dFr_wordAt_5 : decode cFr_wordAt 5 = .ok (.aload_n 0, 1) := by decide +kernel
theorem dFr_wordAt_6 : decode cFr_wordAt 6 = .ok (.getfield 15, 3) := by decide +kernel
theorem dFr_wordAt_9 : decode cFr_wordAt 9 = .ok (.iconst 1, 1) := by decide +kernel
theorem dFr_wordAt_10 : decode cFr_wordAt 10 = .ok (.isub, 1) := by decide +kernel
theorem dFr_wordAt_11 : decode cFr_wordAt 11 = .ok (.if_icmp .ge 30, 3) := by decide +kernel
theorem dFr_wordAt_14 : decode cFr_wordAt 14 = .ok (.iload_n 1, 1) := by decide +kernel
theorem dFr_wordAt_15 : decode cFr_wordAt 15 = .ok (.bipush 40, 2) := by decide +kernel
theorem dFr_wordAt_17 : decode cFr_wordAt 17 = .ok (.if_icmp .ge 24, 3) := by decide +kernel
theorem dFr_wordAt_20 : decode cFr_wordAt 20 = .ok (.aload_n 0, 1) := by decide +kernel
theorem dFr_wordAt_21 : decode cFr_wordAt 21 = .ok (.getfield 9, 3) := by decide +kernel
theorem dFr_wordAt_24 : decode cFr_wordAt 24 = .ok (.iload_n 1, 1) := by decide +kernel
theorem dFr_wordAt_25 : decode cFr_wordAt 25 = .ok (.iaload, 1) := by decide +kernel
theorem dFr_wordAt_26 : decode cFr_wordAt 26 = .ok (.bipush 8, 2) := by decide +kernel
theorem dFr_wordAt_28 : decode cFr_wordAt 28 = .ok (.ishl, 1) := by decide +kernel
theorem dFr_wordAt_29 : decode cFr_wordAt 29 = .ok (.aload_n 0, 1) := by decide +kernel
theorem dFr_wordAt_30 : decode cFr_wordAt 30 = .ok (.getfield 9, 3) := by decide +kernel
theorem dFr_wordAt_33 : decode cFr_wordAt 33 = .ok (.iload_n 1, 1) := by decide +kernel
theorem dFr_wordAt_34 : decode cFr_wordAt 34 = .ok (.iconst 1, 1) := by decide +kernel
theorem dFr_wordAt_35 : decode cFr_wordAt 35 = .ok (.iadd, 1) := by decide +kernel
theorem dFr_wordAt_36 : decode cFr_wordAt 36 = .ok (.iaload, 1) := by decide +kernel
theorem dFr_wordAt_37 : decode cFr_wordAt 37 = .ok (.ior, 1) := by decide +kernel
theorem dFr_wordAt_38 : decode cFr_wordAt 38 = .ok (.goto 4, 3) := by decide +kernel
theorem dFr_wordAt_41 : decode cFr_wordAt 41 = .ok (.iconst 0, 1) := by decide +kernel
theorem dFr_wordAt_42 : decode cFr_wordAt 42 = .ok (.ireturn, 1) := by decide +kernel
theorem dFr_addByte_0 : decode cFr_addByte 0 = .ok (.aload_n 0, 1) := by decide +kernel
theorem dFr_addByte_1 : decode cFr_addByte 1 = .ok (.getfield 15, 3) := by decide +kernel
theorem dFr_addByte_4 : decode cFr_addByte 4 = .ok (.bipush 41, 2) := by decide +kernel
theorem dFr_addByte_6 : decode cFr_addByte 6 = .ok (.if_icmp .ge 27, 3) := by decide +kernel
theorem dFr_addByte_9 : decode cFr_addByte 9 = .ok (.aload_n 0, 1) := by decide +kernel
theorem dFr_addByte_10 : decode cFr_addByte 10 = .ok (.getfield 9, 3) := by decide +kernel
theorem dFr_addByte_13 : decode cFr_addByte 13 = .ok (.aload_n 0, 1) := by decide +kernel
theorem dFr_addByte_14 : decode cFr_addByte 14 = .ok (.getfield 15, 3) := by decide +kernel
theorem dFr_addByte_17 : decode cFr_addByte 17 = .ok (.iload_n 1, 1) := by decide +kernel
theorem dFr_addByte_18 : decode cFr_addByte 18 = .ok (.sipush 255, 3) := by decide +kernel
theorem dFr_addByte_21 : decode cFr_addByte 21 = .ok (.iand, 1) := by decide +kernel
theorem dFr_addByte_22 : decode cFr_addByte 22 = .ok (.iastore, 1) := by decide +kernel
theorem dFr_addByte_23 : decode cFr_addByte 23 = .ok (.aload_n 0, 1) := by decide +kernel
theorem dFr_addByte_24 : decode cFr_addByte 24 = .ok (.dup, 1) := by decide +kernel
theorem dFr_addByte_25 : decode cFr_addByte 25 = .ok (.getfield 15, 3) := by decide +kernel
theorem dFr_addByte_28 : decode cFr_addByte 28 = .ok (.iconst 1, 1) := by decide +kernel
theorem dFr_addByte_29 : decode cFr_addByte 29 = .ok (.iadd, 1) := by decide +kernel
theorem dFr_addByte_30 : decode cFr_addByte 30 = .ok (.putfield 15, 3) := by decide +kernel
theorem dFr_addByte_33 : decode cFr_addByte 33 = .ok (.return_, 1) := by decide +kernel
theorem dFr_begin_0 : decode cFr_begin 0 = .ok (.aload_n 0, 1) := by decide +kernel
theorem dFr_begin_1 : decode cFr_begin 1 = .ok (.iconst 0, 1) := by decide +kernel
theorem dFr_begin_2 : decode cFr_begin 2 = .ok (.putfield 15, 3) := by decide +kernel
theorem dFr_begin_5 : decode cFr_begin 5 = .ok (.aload_n 0, 1) := by decide +kernel
theorem dFr_begin_6 : decode cFr_begin 6 = .ok (.iload_n 1, 1) := by decide +kernel
theorem dFr_begin_7 : decode cFr_begin 7 = .ok (.invokevirtual 19, 3) := by decide +kernel
theorem dFr_begin_10 : decode cFr_begin 10 = .ok (.aload_n 0, 1) := by decide +kernel
theorem dFr_begin_11 : decode cFr_begin 11 = .ok (.iload_n 2, 1) := by decide +kernel
theorem dFr_begin_12 : decode cFr_begin 12 = .ok (.invokevirtual 19, 3) := by decide +kernel
theorem dFr_begin_15 : decode cFr_begin 15 = .ok (.return_, 1) := by decide +kernel
theorem dFr_addWord_0 : decode cFr_addWord 0 = .ok (.aload_n 0, 1) := by decide +kernel
theorem dFr_addWord_1 : decode cFr_addWord 1 = .ok (.iload_n 1, 1) := by decide +kernel
theorem dFr_addWord_2 : decode cFr_addWord 2 = .ok (.bipush 8, 2) := by decide +kernel
theorem dFr_addWord_4 : decode cFr_addWord 4 = .ok (.ishr, 1) := by decide +kernel
theorem dFr_addWord_5 : decode cFr_addWord 5 = .ok (.invokevirtual 19, 3) := by decide +kernel
theorem dFr_addWord_8 : decode cFr_addWord 8 = .ok (.aload_n 0, 1) := by decide +kernel
theorem dFr_addWord_9 : decode cFr_addWord 9 = .ok (.iload_n 1, 1) := by decide +kernel
theorem dFr_addWord_10 : decode cFr_addWord 10 = .ok (.invokevirtual 19, 3) := by decide +kernel
theorem dFr_addWord_13 : decode cFr_addWord 13 = .ok (.return_, 1) := by decide +kernel
theorem dFr_addSum_0 : decode cFr_addSum 0 = .ok (.ldc 23, 2) := by decide +kernel
theorem dFr_addSum_2 : decode cFr_addSum 2 = .ok (.istore_n 1, 1) := by decide +kernel
theorem dFr_addSum_3 : decode cFr_addSum 3 = .ok (.iconst 0, 1) := by decide +kernel
theorem dFr_addSum_4 : decode cFr_addSum 4 = .ok (.istore_n 2, 1) := by decide +kernel
theorem dFr_addSum_5 : decode cFr_addSum 5 = .ok (.iload_n 2, 1) := by decide +kernel
theorem dFr_addSum_6 : decode cFr_addSum 6 = .ok (.aload_n 0, 1) := by decide +kernel
theorem dFr_addSum_7 : decode cFr_addSum 7 = .ok (.getfield 15, 3) := by decide +kernel
theorem dFr_addSum_10 : decode cFr_addSum 10 = .ok (.if_icmp .ge 58, 3) := by decide +kernel
theorem dFr_addSum_13 : decode cFr_addSum 13 = .ok (.iload_n 2, 1) := by decide +kernel
theorem dFr_addSum_14 : decode cFr_addSum 14 = .ok (.bipush 41, 2) := by decide +kernel
theorem dFr_addSum_16 : decode cFr_addSum 16 = .ok (.if_icmp .ge 52, 3) := by decide +kernel
theorem dFr_addSum_19 : decode cFr_addSum 19 = .ok (.iload_n 1, 1) := by decide +kernel
theorem dFr_addSum_20 : decode cFr_addSum 20 = .ok (.aload_n 0, 1) := by decide +kernel
theorem dFr_addSum_21 : decode cFr_addSum 21 = .ok (.getfield 9, 3) := by decide +kernel
theorem dFr_addSum_24 : decode cFr_addSum 24 = .ok (.iload_n 2, 1) := by decide +kernel
theorem dFr_addSum_25 : decode cFr_addSum 25 = .ok (.iaload, 1) := by decide +kernel
theorem dFr_addSum_26 : decode cFr_addSum 26 = .ok (.ixor, 1) := by decide +kernel
theorem dFr_addSum_27 : decode cFr_addSum 27 = .ok (.istore_n 1, 1) := by decide +kernel
theorem dFr_addSum_28 : decode cFr_addSum 28 = .ok (.iconst 0, 1) := by decide +kernel
theorem dFr_addSum_29 : decode cFr_addSum 29 = .ok (.istore_n 3, 1) := by decide +kernel
theorem dFr_addSum_30 : decode cFr_addSum 30 = .ok (.iload_n 3, 1) := by decide +kernel
theorem dFr_addSum_31 : decode cFr_addSum 31 = .ok (.bipush 8, 2) := by decide +kernel
theorem dFr_addSum_33 : decode cFr_addSum 33 = .ok (.if_icmp .ge 29, 3) := by decide +kernel
theorem dFr_addSum_36 : decode cFr_addSum 36 = .ok (.iload_n 1, 1) := by decide +kernel
theorem dFr_addSum_37 : decode cFr_addSum 37 = .ok (.iconst 1, 1) := by decide +kernel
theorem dFr_addSum_38 : decode cFr_addSum 38 = .ok (.iand, 1) := by decide +kernel
theorem dFr_addSum_39 : decode cFr_addSum 39 = .ok (.iconst 1, 1) := by decide +kernel
theorem dFr_addSum_40 : decode cFr_addSum 40 = .ok (.if_icmp .ne 12, 3) := by decide +kernel
theorem dFr_addSum_43 : decode cFr_addSum 43 = .ok (.iload_n 1, 1) := by decide +kernel
theorem dFr_addSum_44 : decode cFr_addSum 44 = .ok (.iconst 1, 1) := by decide +kernel
theorem dFr_addSum_45 : decode cFr_addSum 45 = .ok (.ishr, 1) := by decide +kernel
theorem dFr_addSum_46 : decode cFr_addSum 46 = .ok (.ldc 24, 2) := by decide +kernel
theorem dFr_addSum_48 : decode cFr_addSum 48 = .ok (.ixor, 1) := by decide +kernel
theorem dFr_addSum_49 : decode cFr_addSum 49 = .ok (.goto 6, 3) := by decide +kernel
theorem dFr_addSum_52 : decode cFr_addSum 52 = .ok (.iload_n 1, 1) := by decide +kernel
theorem dFr_addSum_53 : decode cFr_addSum 53 = .ok (.iconst 1, 1) := by decide +kernel
theorem dFr_addSum_54 : decode cFr_addSum 54 = .ok (.ishr, 1) := by decide +kernel
theorem dFr_addSum_55 : decode cFr_addSum 55 = .ok (.istore_n 1, 1) := by decide +kernel
theorem dFr_addSum_56 : decode cFr_addSum 56 = .ok (.iinc 3 1, 3) := by decide +kernel
theorem dFr_addSum_59 : decode cFr_addSum 59 = .ok (.goto (-29), 3) := by decide +kernel
theorem dFr_addSum_62 : decode cFr_addSum 62 = .ok (.iinc 2 1, 3) := by decide +kernel
theorem dFr_addSum_65 : decode cFr_addSum 65 = .ok (.goto (-60), 3) := by decide +kernel
theorem dFr_addSum_68 : decode cFr_addSum 68 = .ok (.aload_n 0, 1) := by decide +kernel
theorem dFr_addSum_69 : decode cFr_addSum 69 = .ok (.iload_n 1, 1) := by decide +kernel
theorem dFr_addSum_70 : decode cFr_addSum 70 = .ok (.invokevirtual 19, 3) := by decide +kernel
theorem dFr_addSum_73 : decode cFr_addSum 73 = .ok (.aload_n 0, 1) := by decide +kernel
theorem dFr_addSum_74 : decode cFr_addSum 74 = .ok (.iload_n 1, 1) := by decide +kernel
theorem dFr_addSum_75 : decode cFr_addSum 75 = .ok (.bipush 8, 2) := by decide +kernel
theorem dFr_addSum_77 : decode cFr_addSum 77 = .ok (.ishr, 1) := by decide +kernel
theorem dFr_addSum_78 : decode cFr_addSum 78 = .ok (.invokevirtual 19, 3) := by decide +kernel
theorem dFr_addSum_81 : decode cFr_addSum 81 = .ok (.return_, 1) := by decide +kernel
theorem dFr_copyFrom_0 : decode cFr_copyFrom 0 = .ok (.aload_n 0, 1) := by decide +kernel
theorem dFr_copyFrom_1 : decode cFr_copyFrom 1 = .ok (.aload_n 1, 1) := by decide +kernel
theorem dFr_copyFrom_2 : decode cFr_copyFrom 2 = .ok (.getfield 15, 3) := by decide +kernel
theorem dFr_copyFrom_5 : decode cFr_copyFrom 5 = .ok (.putfield 15, 3) := by decide +kernel
theorem dFr_copyFrom_8 : decode cFr_copyFrom 8 = .ok (.iconst 0, 1) := by decide +kernel
theorem dFr_copyFrom_9 : decode cFr_copyFrom 9 = .ok (.istore_n 2, 1) := by decide +kernel
theorem dFr_copyFrom_10 : decode cFr_copyFrom 10 = .ok (.iload_n 2, 1) := by decide +kernel
theorem dFr_copyFrom_11 : decode cFr_copyFrom 11 = .ok (.aload_n 0, 1) := by decide +kernel
theorem dFr_copyFrom_12 : decode cFr_copyFrom 12 = .ok (.getfield 15, 3) := by decide +kernel
theorem dFr_copyFrom_15 : decode cFr_copyFrom 15 = .ok (.if_icmp .ge 27, 3) := by decide +kernel
theorem dFr_copyFrom_18 : decode cFr_copyFrom 18 = .ok (.iload_n 2, 1) := by decide +kernel
theorem dFr_copyFrom_19 : decode cFr_copyFrom 19 = .ok (.bipush 41, 2) := by decide +kernel
theorem dFr_copyFrom_21 : decode cFr_copyFrom 21 = .ok (.if_icmp .ge 21, 3) := by decide +kernel
theorem dFr_copyFrom_24 : decode cFr_copyFrom 24 = .ok (.aload_n 0, 1) := by decide +kernel
theorem dFr_copyFrom_25 : decode cFr_copyFrom 25 = .ok (.getfield 9, 3) := by decide +kernel
theorem dFr_copyFrom_28 : decode cFr_copyFrom 28 = .ok (.iload_n 2, 1) := by decide +kernel
theorem dFr_copyFrom_29 : decode cFr_copyFrom 29 = .ok (.aload_n 1, 1) := by decide +kernel
theorem dFr_copyFrom_30 : decode cFr_copyFrom 30 = .ok (.getfield 9, 3) := by decide +kernel
theorem dFr_copyFrom_33 : decode cFr_copyFrom 33 = .ok (.iload_n 2, 1) := by decide +kernel
theorem dFr_copyFrom_34 : decode cFr_copyFrom 34 = .ok (.iaload, 1) := by decide +kernel
theorem dFr_copyFrom_35 : decode cFr_copyFrom 35 = .ok (.iastore, 1) := by decide +kernel
theorem dFr_copyFrom_36 : decode cFr_copyFrom 36 = .ok (.iinc 2 1, 3) := by decide +kernel
theorem dFr_copyFrom_39 : decode cFr_copyFrom 39 = .ok (.goto (-29), 3) := by decide +kernel
theorem dFr_copyFrom_42 : decode cFr_copyFrom 42 = .ok (.return_, 1) := by decide +kernel
def fFr_init (t0 : Nat) (S : Ws) : Option (Ws) :=
  (pV (S.add (.inl (0, 41, .inl (fun _ => 0)))) t0 [0] 0 (.ref S.1)).bind fun S1 => some S1
set_option maxRecDepth 100000 in
set_option maxHeartbeats 4000000 in
theorem kFr_init (l : Launch) (D : va_G) (tc : Nat → ClassId) (b : Nat) (t0 : Nat) (S Sz : Ws) (h : fFr_init t0 S = some Sz) : Met l yFr_init wsFr_init { frames := 1, cells := 1, slots := 41, locals := 40 } (va_Pc [.ref t0] (Wp D vwCl (hTy tc) b S)) (va_Qv (fun _ : Unit => True) (fun _ => Wp D vwCl (hTy tc) b Sz) (fun q => b ≤ q)) 1 41 (fun q => b ≤ q) := by
  refine hq_ofW (cc := cFr_init) (maxL := 1) (ret := none) (by decide) rfl (Nat.le_of_ble_eq_true rfl) fun p e s m args below meth c hx hb hr hts hown hlocks hnm hml H locs ls hl hW => ?_
  have hts : ∀ w ∈ lwG, w.before args s = true := fun w h => hts w (List.mem_cons_of_mem _ h)
  have hown : s.vm.findClass "SerialPlant$Frame" = some m.cls := hown
  have hl : lv_has ls 1 [(0, .ref t0)] := hl
  unfold fFr_init at h
  refine lv_aload_n hx hb dFr_init_0 rfl (lv_at hl 0 rfl) ?_
  refine W.objInit hx hb hown (hts _ w_75) (hts _ w_17) (hts _ w_oi) rfl (by rw [hml]; exact hl.1) rfl dFr_init_1 (Nat.le_of_ble_eq_true rfl) (Nat.le_of_ble_eq_true rfl) ?_
  refine W.eq (g2 := F0 m 4 ls []) rfl ?_
  refine lv_aload_n hx hb dFr_init_4 rfl (lv_at hl 0 rfl) ?_
  refine lv_bipush hx hb dFr_init_5 (v := (41 : Int32)) rfl ?_
  refine hq_newa (atype := .int) (ty := .int) (N := 41) (a0 := .inl (fun _ => 0)) (ce := 1) (sl := 41) hx hb (hts _ w_56) rfl (fun _ h => by cases h) hW 0 rfl (fun _ => rfl) (by decide) rfl (by decide) rfl rfl (Nat.le_of_ble_eq_true rfl) (Nat.le_of_ble_eq_true rfl) dFr_init_7 (fun H hW => ?_)
  replace h := ob h; obtain ⟨S1, eS1, h⟩ := h
  refine hq_put hx hb hts hown hW eS1 (F_Fr_9 hts) (P_Fr_Fr_0 hnm) rfl rfl dFr_init_9 (fun H locs hW => ?_)
  exact hq_vret hx hb hr hlocks h (Nat.le_of_ble_eq_true rfl) (Nat.le_of_ble_eq_true rfl) hW dFr_init_12
def fFr_byteAt (t0 : Nat) (t1 : Int32) (S : Ws) : Option (Int32 × Ws) :=
  if t1 < 0 then some ((-1 : Int32), S) else (gI S t0 [0] 1).bind fun v1 => if v1 ≤ t1 then some ((-1 : Int32), S) else if (41 : Int32) ≤ t1 then some ((-1 : Int32), S) else (gR S t0 [0] 0).bind fun r2 => (r2).bind fun a3 => (aI S a3 0 t1).bind fun v4 => some (v4, S)
set_option maxRecDepth 100000 in
set_option maxHeartbeats 4000000 in
theorem kFr_byteAt (l : Launch) (D : va_G) (tc : Nat → ClassId) (b : Nat) (t0 : Nat) (t1 : Int32) (S Sz : Ws) (rr : Int32) (h : fFr_byteAt t0 t1 S = some (rr, Sz)) : Met l yFr_byteAt wsFr_byteAt { frames := 1, cells := 0, slots := 0, locals := 40 } (va_Pc [.ref t0, .int t1] (Wp D vwCl (hTy tc) b S)) (va_Qi (fun x (_ : Unit) => x = rr) (fun _ => Wp D vwCl (hTy tc) b Sz) (fun q => b ≤ q)) 0 0 (fun q => b ≤ q) := by
  refine hq_ofW (cc := cFr_byteAt) (maxL := 2) (ret := (some .int)) (by decide) rfl (Nat.le_of_ble_eq_true rfl) fun p e s m args below meth c hx hb hr hts hown hlocks hnm hml H locs ls hl hW => ?_
  have hts : ∀ w ∈ lwG, w.before args s = true := fun w h => hts w (List.mem_cons_of_mem _ h)
  have hown : s.vm.findClass "SerialPlant$Frame" = some m.cls := hown
  have hl : lv_has ls 2 [(0, .ref t0), (1, .int t1)] := hl
  unfold fFr_byteAt at h
  refine lv_iload_n hx hb dFr_byteAt_0 rfl (lv_at hl 1 rfl) ?_
  refine lv_if_lt hx hb dFr_byteAt_1 (tgt := 27) rfl (fun hc7 => ?_) (fun hc7 => ?_)
  · replace h := if_t hc7 h
    refine lv_iconst hx hb dFr_byteAt_27 (v := (-1 : Int32)) rfl ?_
    exact hq_iret hx hb hr hlocks h (Nat.le_of_ble_eq_true rfl) (Nat.le_of_ble_eq_true rfl) hW dFr_byteAt_28
  · replace h := if_f hc7 h
    refine lv_iload_n hx hb dFr_byteAt_4 rfl (lv_at hl 1 rfl) ?_
    refine lv_aload_n hx hb dFr_byteAt_5 rfl (lv_at hl 0 rfl) ?_
    replace h := ob h; obtain ⟨v1, ev1, h⟩ := h
    refine hq_get hx hb hts hown hW (gI_V ev1) (F_Fr_15 hts) dFr_byteAt_6 ?_
    refine lv_icmp_ge hx hb dFr_byteAt_9 (tgt := 27) rfl (fun hc6 => ?_) (fun hc6 => ?_)
    · replace h := if_t hc6 h
      refine lv_iconst hx hb dFr_byteAt_27 (v := (-1 : Int32)) rfl ?_
      exact hq_iret hx hb hr hlocks h (Nat.le_of_ble_eq_true rfl) (Nat.le_of_ble_eq_true rfl) hW dFr_byteAt_28
    · replace h := if_f hc6 h
      refine lv_iload_n hx hb dFr_byteAt_12 rfl (lv_at hl 1 rfl) ?_
      refine lv_bipush hx hb dFr_byteAt_13 (v := (41 : Int32)) rfl ?_
      refine lv_icmp_ge hx hb dFr_byteAt_15 (tgt := 27) rfl (fun hc5 => ?_) (fun hc5 => ?_)
      · replace h := if_t hc5 h
        refine lv_iconst hx hb dFr_byteAt_27 (v := (-1 : Int32)) rfl ?_
        exact hq_iret hx hb hr hlocks h (Nat.le_of_ble_eq_true rfl) (Nat.le_of_ble_eq_true rfl) hW dFr_byteAt_28
      · replace h := if_f hc5 h
        refine lv_aload_n hx hb dFr_byteAt_18 rfl (lv_at hl 0 rfl) ?_
        replace h := ob h; obtain ⟨r2, er2, h⟩ := h
        refine hq_get hx hb hts hown hW (gR_V er2) (F_Fr_9 hts) dFr_byteAt_19 ?_
        refine lv_iload_n hx hb dFr_byteAt_22 rfl (lv_at hl 1 rfl) ?_
        replace h := ob h; obtain ⟨a3, hra3, h⟩ := h
        subst hra3
        replace h := ob h; obtain ⟨v4, ev4, h⟩ := h
        refine hq_iald hx hb hW ev4 rfl dFr_byteAt_23 ?_
        refine lv_goto hx hb dFr_byteAt_24 (tgt := 28) rfl ?_
        exact hq_iret hx hb hr hlocks h (Nat.le_of_ble_eq_true rfl) (Nat.le_of_ble_eq_true rfl) hW dFr_byteAt_28
def fFr_wordAt (t0 : Nat) (t1 : Int32) (S : Ws) : Option (Int32 × Ws) :=
  if t1 < 0 then some ((0 : Int32), S) else (gI S t0 [0] 1).bind fun v1 => if (v1 - (1 : Int32)) ≤ t1 then some ((0 : Int32), S) else if (40 : Int32) ≤ t1 then some ((0 : Int32), S) else (gR S t0 [0] 0).bind fun r2 => (r2).bind fun a3 => (aI S a3 0 t1).bind fun v4 => (gR S t0 [0] 0).bind fun r5 => (r5).bind fun a6 => (aI S a6 0 (t1 + (1 : Int32))).bind fun v7 => some ((v4 <<< ((8 : Int32) &&& 31)) ||| v7, S)
set_option maxRecDepth 100000 in
set_option maxHeartbeats 4000000 in
theorem kFr_wordAt (l : Launch) (D : va_G) (tc : Nat → ClassId) (b : Nat) (t0 : Nat) (t1 : Int32) (S Sz : Ws) (rr : Int32) (h : fFr_wordAt t0 t1 S = some (rr, Sz)) : Met l yFr_wordAt wsFr_wordAt { frames := 1, cells := 0, slots := 0, locals := 40 } (va_Pc [.ref t0, .int t1] (Wp D vwCl (hTy tc) b S)) (va_Qi (fun x (_ : Unit) => x = rr) (fun _ => Wp D vwCl (hTy tc) b Sz) (fun q => b ≤ q)) 0 0 (fun q => b ≤ q) := by
  refine hq_ofW (cc := cFr_wordAt) (maxL := 2) (ret := (some .int)) (by decide) rfl (Nat.le_of_ble_eq_true rfl) fun p e s m args below meth c hx hb hr hts hown hlocks hnm hml H locs ls hl hW => ?_
  have hts : ∀ w ∈ lwG, w.before args s = true := fun w h => hts w (List.mem_cons_of_mem _ h)
  have hown : s.vm.findClass "SerialPlant$Frame" = some m.cls := hown
  have hl : lv_has ls 2 [(0, .ref t0), (1, .int t1)] := hl
  unfold fFr_wordAt at h
  refine lv_iload_n hx hb dFr_wordAt_0 rfl (lv_at hl 1 rfl) ?_
  refine lv_if_lt hx hb dFr_wordAt_1 (tgt := 41) rfl (fun hc10 => ?_) (fun hc10 => ?_)
  · replace h := if_t hc10 h
    refine lv_iconst hx hb dFr_wordAt_41 (v := (0 : Int32)) rfl ?_
    exact hq_iret hx hb hr hlocks h (Nat.le_of_ble_eq_true rfl) (Nat.le_of_ble_eq_true rfl) hW dFr_wordAt_42
  · replace h := if_f hc10 h
    refine lv_iload_n hx hb dFr_wordAt_4 rfl (lv_at hl 1 rfl) ?_
    refine lv_aload_n hx hb dFr_wordAt_5 rfl (lv_at hl 0 rfl) ?_
    replace h := ob h; obtain ⟨v1, ev1, h⟩ := h
    refine hq_get hx hb hts hown hW (gI_V ev1) (F_Fr_15 hts) dFr_wordAt_6 ?_
    refine lv_iconst hx hb dFr_wordAt_9 (v := (1 : Int32)) rfl ?_
    refine lv_isub hx hb dFr_wordAt_10 ?_
    refine lv_icmp_ge hx hb dFr_wordAt_11 (tgt := 41) rfl (fun hc9 => ?_) (fun hc9 => ?_)
    · replace h := if_t hc9 h
      refine lv_iconst hx hb dFr_wordAt_41 (v := (0 : Int32)) rfl ?_
      exact hq_iret hx hb hr hlocks h (Nat.le_of_ble_eq_true rfl) (Nat.le_of_ble_eq_true rfl) hW dFr_wordAt_42
    · replace h := if_f hc9 h
      refine lv_iload_n hx hb dFr_wordAt_14 rfl (lv_at hl 1 rfl) ?_
      refine lv_bipush hx hb dFr_wordAt_15 (v := (40 : Int32)) rfl ?_
      refine lv_icmp_ge hx hb dFr_wordAt_17 (tgt := 41) rfl (fun hc8 => ?_) (fun hc8 => ?_)
      · replace h := if_t hc8 h
        refine lv_iconst hx hb dFr_wordAt_41 (v := (0 : Int32)) rfl ?_
        exact hq_iret hx hb hr hlocks h (Nat.le_of_ble_eq_true rfl) (Nat.le_of_ble_eq_true rfl) hW dFr_wordAt_42
      · replace h := if_f hc8 h
        refine lv_aload_n hx hb dFr_wordAt_20 rfl (lv_at hl 0 rfl) ?_
        replace h := ob h; obtain ⟨r2, er2, h⟩ := h
        refine hq_get hx hb hts hown hW (gR_V er2) (F_Fr_9 hts) dFr_wordAt_21 ?_
        refine lv_iload_n hx hb dFr_wordAt_24 rfl (lv_at hl 1 rfl) ?_
        replace h := ob h; obtain ⟨a3, hra3, h⟩ := h
        subst hra3
        replace h := ob h; obtain ⟨v4, ev4, h⟩ := h
        refine hq_iald hx hb hW ev4 rfl dFr_wordAt_25 ?_
        refine lv_bipush hx hb dFr_wordAt_26 (v := (8 : Int32)) rfl ?_
        refine lv_ishl hx hb dFr_wordAt_28 ?_
        refine lv_aload_n hx hb dFr_wordAt_29 rfl (lv_at hl 0 rfl) ?_
        replace h := ob h; obtain ⟨r5, er5, h⟩ := h
        refine hq_get hx hb hts hown hW (gR_V er5) (F_Fr_9 hts) dFr_wordAt_30 ?_
        refine lv_iload_n hx hb dFr_wordAt_33 rfl (lv_at hl 1 rfl) ?_
        refine lv_iconst hx hb dFr_wordAt_34 (v := (1 : Int32)) rfl ?_
        refine lv_iadd hx hb dFr_wordAt_35 ?_
        replace h := ob h; obtain ⟨a6, hra6, h⟩ := h
        subst hra6
        replace h := ob h; obtain ⟨v7, ev7, h⟩ := h
        refine hq_iald hx hb hW ev7 rfl dFr_wordAt_36 ?_
        refine lv_ior hx hb dFr_wordAt_37 ?_
        refine lv_goto hx hb dFr_wordAt_38 (tgt := 42) rfl ?_
        exact hq_iret hx hb hr hlocks h (Nat.le_of_ble_eq_true rfl) (Nat.le_of_ble_eq_true rfl) hW dFr_wordAt_42
def fFr_addByte (t0 : Nat) (t1 : Int32) (S : Ws) : Option (Ws) :=
  (gI S t0 [0] 1).bind fun v1 => if (41 : Int32) ≤ v1 then some S else (gR S t0 [0] 0).bind fun r2 => (gI S t0 [0] 1).bind fun v3 => (r2).bind fun a4 => (sI S a4 0 v3 (t1 &&& (255 : Int32))).bind fun S5 => (gI S5 t0 [0] 1).bind fun v6 => (pV S5 t0 [0] 1 (.int (v6 + (1 : Int32)))).bind fun S7 => some S7
set_option maxRecDepth 100000 in
set_option maxHeartbeats 4000000 in
theorem kFr_addByte (l : Launch) (D : va_G) (tc : Nat → ClassId) (b : Nat) (t0 : Nat) (t1 : Int32) (S Sz : Ws) (h : fFr_addByte t0 t1 S = some Sz) : Met l yFr_addByte wsFr_addByte { frames := 1, cells := 0, slots := 0, locals := 40 } (va_Pc [.ref t0, .int t1] (Wp D vwCl (hTy tc) b S)) (va_Qv (fun _ : Unit => True) (fun _ => Wp D vwCl (hTy tc) b Sz) (fun q => b ≤ q)) 0 0 (fun q => b ≤ q) := by
  refine hq_ofW (cc := cFr_addByte) (maxL := 2) (ret := none) (by decide) rfl (Nat.le_of_ble_eq_true rfl) fun p e s m args below meth c hx hb hr hts hown hlocks hnm hml H locs ls hl hW => ?_
  have hts : ∀ w ∈ lwG, w.before args s = true := fun w h => hts w (List.mem_cons_of_mem _ h)
  have hown : s.vm.findClass "SerialPlant$Frame" = some m.cls := hown
  have hl : lv_has ls 2 [(0, .ref t0), (1, .int t1)] := hl
  unfold fFr_addByte at h
  refine lv_aload_n hx hb dFr_addByte_0 rfl (lv_at hl 0 rfl) ?_
  replace h := ob h; obtain ⟨v1, ev1, h⟩ := h
  refine hq_get hx hb hts hown hW (gI_V ev1) (F_Fr_15 hts) dFr_addByte_1 ?_
  refine lv_bipush hx hb dFr_addByte_4 (v := (41 : Int32)) rfl ?_
  refine lv_icmp_ge hx hb dFr_addByte_6 (tgt := 33) rfl (fun hc8 => ?_) (fun hc8 => ?_)
  · replace h := if_t hc8 h
    exact hq_vret hx hb hr hlocks h (Nat.le_of_ble_eq_true rfl) (Nat.le_of_ble_eq_true rfl) hW dFr_addByte_33
  · replace h := if_f hc8 h
    refine lv_aload_n hx hb dFr_addByte_9 rfl (lv_at hl 0 rfl) ?_
    replace h := ob h; obtain ⟨r2, er2, h⟩ := h
    refine hq_get hx hb hts hown hW (gR_V er2) (F_Fr_9 hts) dFr_addByte_10 ?_
    refine lv_aload_n hx hb dFr_addByte_13 rfl (lv_at hl 0 rfl) ?_
    replace h := ob h; obtain ⟨v3, ev3, h⟩ := h
    refine hq_get hx hb hts hown hW (gI_V ev3) (F_Fr_15 hts) dFr_addByte_14 ?_
    refine lv_iload_n hx hb dFr_addByte_17 rfl (lv_at hl 1 rfl) ?_
    refine lv_sipush hx hb dFr_addByte_18 (v := (255 : Int32)) rfl ?_
    refine lv_iand hx hb dFr_addByte_21 ?_
    replace h := ob h; obtain ⟨a4, hra4, h⟩ := h
    subst hra4
    replace h := ob h; obtain ⟨S5, eS5, h⟩ := h
    refine hq_iast hx hb hW eS5 rfl dFr_addByte_22 (fun H locs hW => ?_)
    refine lv_aload_n hx hb dFr_addByte_23 rfl (lv_at hl 0 rfl) ?_
    refine lv_dup hx hb dFr_addByte_24 rfl ?_
    replace h := ob h; obtain ⟨v6, ev6, h⟩ := h
    refine hq_get hx hb hts hown hW (gI_V ev6) (F_Fr_15 hts) dFr_addByte_25 ?_
    refine lv_iconst hx hb dFr_addByte_28 (v := (1 : Int32)) rfl ?_
    refine lv_iadd hx hb dFr_addByte_29 ?_
    replace h := ob h; obtain ⟨S7, eS7, h⟩ := h
    refine hq_put hx hb hts hown hW eS7 (F_Fr_15 hts) P_Fr_Fr_1 rfl rfl dFr_addByte_30 (fun H locs hW => ?_)
    exact hq_vret hx hb hr hlocks h (Nat.le_of_ble_eq_true rfl) (Nat.le_of_ble_eq_true rfl) hW dFr_addByte_33
def fFr_begin (t0 : Nat) (t1 : Int32) (t2 : Int32) (S : Ws) : Option (Ws) :=
  (pV S t0 [0] 1 (.int (0 : Int32))).bind fun S1 => (gO S1 t0 [0]).bind fun q3 => (fFr_addByte t0 t1 S1).bind fun S2 => (gO S2 t0 [0]).bind fun q5 => (fFr_addByte t0 t2 S2).bind fun S4 => some S4
set_option maxRecDepth 100000 in
set_option maxHeartbeats 4000000 in
theorem kFr_begin (l : Launch) (D : va_G) (tc : Nat → ClassId) (b : Nat) (t0 : Nat) (t1 : Int32) (t2 : Int32) (S Sz : Ws) (h : fFr_begin t0 t1 t2 S = some Sz) : Met l yFr_begin wsFr_begin { frames := 2, cells := 0, slots := 0, locals := 80 } (va_Pc [.ref t0, .int t1, .int t2] (Wp D vwCl (hTy tc) b S)) (va_Qv (fun _ : Unit => True) (fun _ => Wp D vwCl (hTy tc) b Sz) (fun q => b ≤ q)) 0 0 (fun q => b ≤ q) := by
  refine hq_ofW (cc := cFr_begin) (maxL := 3) (ret := none) (by decide) rfl (Nat.le_of_ble_eq_true rfl) fun p e s m args below meth c hx hb hr hts hown hlocks hnm hml H locs ls hl hW => ?_
  have hts : ∀ w ∈ lwG, w.before args s = true := fun w h => hts w (List.mem_cons_of_mem _ h)
  have hown : s.vm.findClass "SerialPlant$Frame" = some m.cls := hown
  have hl : lv_has ls 3 [(0, .ref t0), (1, .int t1), (2, .int t2)] := hl
  unfold fFr_begin at h
  refine lv_aload_n hx hb dFr_begin_0 rfl (lv_at hl 0 rfl) ?_
  refine lv_iconst hx hb dFr_begin_1 (v := (0 : Int32)) rfl ?_
  replace h := ob h; obtain ⟨S1, eS1, h⟩ := h
  refine hq_put hx hb hts hown hW eS1 (F_Fr_15 hts) P_Fr_Fr_1 rfl rfl dFr_begin_2 (fun H locs hW => ?_)
  refine lv_aload_n hx hb dFr_begin_5 rfl (lv_at hl 0 rfl) ?_
  refine lv_iload_n hx hb dFr_begin_6 rfl (lv_at hl 1 rfl) ?_
  replace h := ob h; obtain ⟨q3, eq3, h⟩ := h
  replace h := ob h; obtain ⟨S2, eS2, h⟩ := h
  refine hq_callv (ce := 0) (sl := 0) (va_runV (As := [.int t1]) (rest := []) ⟨hx, hb, hml, hown, hts⟩ (kFr_addByte l D tc b t0 t1 S1 _ eS2) (cwV 1 hts GV_Fr_19_Fr rfl rfl rfl hd_Fr_addByte_V ⟨Nat.le_of_ble_eq_true rfl, Nat.le_of_ble_eq_true rfl⟩) (hq_preV1 hW eq3 rfl rfl) rfl rfl hl.1 rfl (lv_room (by first | exact Nat.le_of_ble_eq_true rfl | (simp only [List.map, rf_cat]; exact Nat.le_of_ble_eq_true rfl))) dFr_begin_7 ⟨Nat.le_of_ble_eq_true rfl, Nat.le_of_ble_eq_true rfl⟩) hW rfl rfl (fun H locs hW => ?_)
  refine lv_aload_n hx hb dFr_begin_10 rfl (lv_at hl 0 rfl) ?_
  refine lv_iload_n hx hb dFr_begin_11 rfl (lv_at hl 2 rfl) ?_
  replace h := ob h; obtain ⟨q5, eq5, h⟩ := h
  replace h := ob h; obtain ⟨S4, eS4, h⟩ := h
  refine hq_callv (ce := 0) (sl := 0) (va_runV (As := [.int t2]) (rest := []) ⟨hx, hb, hml, hown, hts⟩ (kFr_addByte l D tc b t0 t2 S2 _ eS4) (cwV 1 hts GV_Fr_19_Fr rfl rfl rfl hd_Fr_addByte_V ⟨Nat.le_of_ble_eq_true rfl, Nat.le_of_ble_eq_true rfl⟩) (hq_preV1 hW eq5 rfl rfl) rfl rfl hl.1 rfl (lv_room (by first | exact Nat.le_of_ble_eq_true rfl | (simp only [List.map, rf_cat]; exact Nat.le_of_ble_eq_true rfl))) dFr_begin_12 ⟨Nat.le_of_ble_eq_true rfl, Nat.le_of_ble_eq_true rfl⟩) hW rfl rfl (fun H locs hW => ?_)
  exact hq_vret hx hb hr hlocks h (Nat.le_of_ble_eq_true rfl) (Nat.le_of_ble_eq_true rfl) hW dFr_begin_15
def fFr_addWord (t0 : Nat) (t1 : Int32) (S : Ws) : Option (Ws) :=
  (gO S t0 [0]).bind fun q2 => (fFr_addByte t0 (t1 >>> ((8 : Int32) &&& 31)) S).bind fun S1 => (gO S1 t0 [0]).bind fun q4 => (fFr_addByte t0 t1 S1).bind fun S3 => some S3
set_option maxRecDepth 100000 in
set_option maxHeartbeats 4000000 in
theorem kFr_addWord (l : Launch) (D : va_G) (tc : Nat → ClassId) (b : Nat) (t0 : Nat) (t1 : Int32) (S Sz : Ws) (h : fFr_addWord t0 t1 S = some Sz) : Met l yFr_addWord wsFr_addWord { frames := 2, cells := 0, slots := 0, locals := 80 } (va_Pc [.ref t0, .int t1] (Wp D vwCl (hTy tc) b S)) (va_Qv (fun _ : Unit => True) (fun _ => Wp D vwCl (hTy tc) b Sz) (fun q => b ≤ q)) 0 0 (fun q => b ≤ q) := by
  refine hq_ofW (cc := cFr_addWord) (maxL := 2) (ret := none) (by decide) rfl (Nat.le_of_ble_eq_true rfl) fun p e s m args below meth c hx hb hr hts hown hlocks hnm hml H locs ls hl hW => ?_
  have hts : ∀ w ∈ lwG, w.before args s = true := fun w h => hts w (List.mem_cons_of_mem _ h)
  have hown : s.vm.findClass "SerialPlant$Frame" = some m.cls := hown
  have hl : lv_has ls 2 [(0, .ref t0), (1, .int t1)] := hl
  unfold fFr_addWord at h
  refine lv_aload_n hx hb dFr_addWord_0 rfl (lv_at hl 0 rfl) ?_
  refine lv_iload_n hx hb dFr_addWord_1 rfl (lv_at hl 1 rfl) ?_
  refine lv_bipush hx hb dFr_addWord_2 (v := (8 : Int32)) rfl ?_
  refine lv_ishr hx hb dFr_addWord_4 ?_
  replace h := ob h; obtain ⟨q2, eq2, h⟩ := h
  replace h := ob h; obtain ⟨S1, eS1, h⟩ := h
  refine hq_callv (ce := 0) (sl := 0) (va_runV (As := [.int (t1 >>> ((8 : Int32) &&& 31))]) (rest := []) ⟨hx, hb, hml, hown, hts⟩ (kFr_addByte l D tc b t0 (t1 >>> ((8 : Int32) &&& 31)) S _ eS1) (cwV 1 hts GV_Fr_19_Fr rfl rfl rfl hd_Fr_addByte_V ⟨Nat.le_of_ble_eq_true rfl, Nat.le_of_ble_eq_true rfl⟩) (hq_preV1 hW eq2 rfl rfl) rfl rfl hl.1 rfl (lv_room (by first | exact Nat.le_of_ble_eq_true rfl | (simp only [List.map, rf_cat]; exact Nat.le_of_ble_eq_true rfl))) dFr_addWord_5 ⟨Nat.le_of_ble_eq_true rfl, Nat.le_of_ble_eq_true rfl⟩) hW rfl rfl (fun H locs hW => ?_)
  refine lv_aload_n hx hb dFr_addWord_8 rfl (lv_at hl 0 rfl) ?_
  refine lv_iload_n hx hb dFr_addWord_9 rfl (lv_at hl 1 rfl) ?_
  replace h := ob h; obtain ⟨q4, eq4, h⟩ := h
  replace h := ob h; obtain ⟨S3, eS3, h⟩ := h
  refine hq_callv (ce := 0) (sl := 0) (va_runV (As := [.int t1]) (rest := []) ⟨hx, hb, hml, hown, hts⟩ (kFr_addByte l D tc b t0 t1 S1 _ eS3) (cwV 1 hts GV_Fr_19_Fr rfl rfl rfl hd_Fr_addByte_V ⟨Nat.le_of_ble_eq_true rfl, Nat.le_of_ble_eq_true rfl⟩) (hq_preV1 hW eq4 rfl rfl) rfl rfl hl.1 rfl (lv_room (by first | exact Nat.le_of_ble_eq_true rfl | (simp only [List.map, rf_cat]; exact Nat.le_of_ble_eq_true rfl))) dFr_addWord_10 ⟨Nat.le_of_ble_eq_true rfl, Nat.le_of_ble_eq_true rfl⟩) hW rfl rfl (fun H locs hW => ?_)
  exact hq_vret hx hb hr hlocks h (Nat.le_of_ble_eq_true rfl) (Nat.le_of_ble_eq_true rfl) hW dFr_addWord_13
def fFr_addSum_L30  : Int32 × Int32 → Option ((Int32 × Int32) ⊕ (Int32)) :=
  fun (i9, i10) => if (8 : Int32) ≤ i10 then some (.inr i9) else (if (i9 &&& (1 : Int32)) = (1 : Int32) then some ((i9 >>> ((1 : Int32) &&& 31)) ^^^ (40961 : Int32)) else some (i9 >>> ((1 : Int32) &&& 31))).bind fun i13 => some (.inl (i13, i10 + 1))
def fFr_addSum_L5 (S : Ws) (t0 : Nat) : Int32 × Int32 → Option ((Int32 × Int32) ⊕ (Int32)) :=
  fun (i1, i2) => (gI S t0 [0] 1).bind fun v5 => if v5 ≤ i2 then some (.inr i1) else if (41 : Int32) ≤ i2 then some (.inr i1) else (gR S t0 [0] 0).bind fun r6 => (r6).bind fun a7 => (aI S a7 0 i2).bind fun v8 => (lp (fFr_addSum_L30) 1000 (i1 ^^^ v8, (0 : Int32))).bind fun i12 => some (.inl (i12, i2 + 1))
def fFr_addSum (t0 : Nat) (S : Ws) : Option (Ws) :=
  (lp (fFr_addSum_L5 S t0) 1000 ((65535 : Int32), (0 : Int32))).bind fun i4 => (gO S t0 [0]).bind fun q20 => (fFr_addByte t0 i4 S).bind fun S19 => (gO S19 t0 [0]).bind fun q22 => (fFr_addByte t0 (i4 >>> ((8 : Int32) &&& 31)) S19).bind fun S21 => some S21
set_option maxRecDepth 100000 in
set_option maxHeartbeats 4000000 in
theorem kFr_addSum (l : Launch) (D : va_G) (tc : Nat → ClassId) (b : Nat) (t0 : Nat) (S Sz : Ws) (h : fFr_addSum t0 S = some Sz) : Met l yFr_addSum wsFr_addSum { frames := 2, cells := 0, slots := 0, locals := 80 } (va_Pc [.ref t0] (Wp D vwCl (hTy tc) b S)) (va_Qv (fun _ : Unit => True) (fun _ => Wp D vwCl (hTy tc) b Sz) (fun q => b ≤ q)) 0 0 (fun q => b ≤ q) := by
  refine hq_ofW (cc := cFr_addSum) (maxL := 4) (ret := none) (by decide) rfl (Nat.le_of_ble_eq_true rfl) fun p e s m args below meth c hx hb hr hts hown hlocks hnm hml H locs ls hl hW => ?_
  have hts : ∀ w ∈ lwG, w.before args s = true := fun w h => hts w (List.mem_cons_of_mem _ h)
  have hown : s.vm.findClass "SerialPlant$Frame" = some m.cls := hown
  have hl : lv_has ls 4 [(0, .ref t0)] := hl
  unfold fFr_addSum at h
  refine lv_ldc hx hb (v := (65535 : Int32)) hown (hts _ w_463) dFr_addSum_0 ?_
  refine lv_istore_n (lv' := [(1, .int (65535 : Int32)), (0, .ref t0)]) hx hb dFr_addSum_2 rfl hl (Nat.le_of_ble_eq_true rfl) (by first | rfl | (simp [List.filter, rf_cat] <;> rfl)) (fun ls hl => ?_)
  refine lv_iconst hx hb dFr_addSum_3 (v := (0 : Int32)) rfl ?_
  refine lv_istore_n (lv' := [(2, .int (0 : Int32)), (1, .int (65535 : Int32)), (0, .ref t0)]) hx hb dFr_addSum_4 rfl hl (Nat.le_of_ble_eq_true rfl) (by first | rfl | (simp [List.filter, rf_cat] <;> rfl)) (fun ls hl => ?_)
  replace h := ob h; obtain ⟨i4, ei4, h⟩ := h
  have hX : (fun q' => ∀ (H : Heap) (locs : List Loc) (ls : Array Slot), lv_has ls 4 [(0, .ref t0), (1, .int q')] → Wd D vwCl (hTy tc) b S s H locs → W p l e { frames := 2, cells := 0, slots := 0, locals := 80 } s m args below meth c H locs 0 0 (MQ below (va_Qv (fun _ : Unit => True) (fun _ => Wp D vwCl (hTy tc) b Sz) (fun q => b ≤ q)) args s 0 0 (fun q => b ≤ q)) (F0 m 68 ls [])) i4 := by
    intro H locs ls hl hW
    refine lv_aload_n hx hb dFr_addSum_68 rfl (lv_at hl 0 rfl) ?_
    refine lv_iload_n hx hb dFr_addSum_69 rfl (lv_at hl 1 rfl) ?_
    replace h := ob h; obtain ⟨q20, eq20, h⟩ := h
    replace h := ob h; obtain ⟨S19, eS19, h⟩ := h
    refine hq_callv (ce := 0) (sl := 0) (va_runV (As := [.int i4]) (rest := []) ⟨hx, hb, hml, hown, hts⟩ (kFr_addByte l D tc b t0 i4 S _ eS19) (cwV 1 hts GV_Fr_19_Fr rfl rfl rfl hd_Fr_addByte_V ⟨Nat.le_of_ble_eq_true rfl, Nat.le_of_ble_eq_true rfl⟩) (hq_preV1 hW eq20 rfl rfl) rfl rfl hl.1 rfl (lv_room (by first | exact Nat.le_of_ble_eq_true rfl | (simp only [List.map, rf_cat]; exact Nat.le_of_ble_eq_true rfl))) dFr_addSum_70 ⟨Nat.le_of_ble_eq_true rfl, Nat.le_of_ble_eq_true rfl⟩) hW rfl rfl (fun H locs hW => ?_)
    refine lv_aload_n hx hb dFr_addSum_73 rfl (lv_at hl 0 rfl) ?_
    refine lv_iload_n hx hb dFr_addSum_74 rfl (lv_at hl 1 rfl) ?_
    refine lv_bipush hx hb dFr_addSum_75 (v := (8 : Int32)) rfl ?_
    refine lv_ishr hx hb dFr_addSum_77 ?_
    replace h := ob h; obtain ⟨q22, eq22, h⟩ := h
    replace h := ob h; obtain ⟨S21, eS21, h⟩ := h
    refine hq_callv (ce := 0) (sl := 0) (va_runV (As := [.int (i4 >>> ((8 : Int32) &&& 31))]) (rest := []) ⟨hx, hb, hml, hown, hts⟩ (kFr_addByte l D tc b t0 (i4 >>> ((8 : Int32) &&& 31)) S19 _ eS21) (cwV 1 hts GV_Fr_19_Fr rfl rfl rfl hd_Fr_addByte_V ⟨Nat.le_of_ble_eq_true rfl, Nat.le_of_ble_eq_true rfl⟩) (hq_preV1 hW eq22 rfl rfl) rfl rfl hl.1 rfl (lv_room (by first | exact Nat.le_of_ble_eq_true rfl | (simp only [List.map, rf_cat]; exact Nat.le_of_ble_eq_true rfl))) dFr_addSum_78 ⟨Nat.le_of_ble_eq_true rfl, Nat.le_of_ble_eq_true rfl⟩) hW rfl rfl (fun H locs hW => ?_)
    exact hq_vret hx hb hr hlocks h (Nat.le_of_ble_eq_true rfl) (Nat.le_of_ble_eq_true rfl) hW dFr_addSum_81
  refine lp_ind (P := fun q' => ∀ (H : Heap) (locs : List Loc) (ls : Array Slot), lv_has ls 4 [(0, .ref t0), (1, .int q'.1), (2, .int q'.2)] → Wd D vwCl (hTy tc) b S s H locs → W p l e { frames := 2, cells := 0, slots := 0, locals := 80 } s m args below meth c H locs 0 0 (MQ below (va_Qv (fun _ : Unit => True) (fun _ => Wp D vwCl (hTy tc) b Sz) (fun q => b ≤ q)) args s 0 0 (fun q => b ≤ q)) (F0 m 5 ls [])) (Q := fun q' => ∀ (H : Heap) (locs : List Loc) (ls : Array Slot), lv_has ls 4 [(0, .ref t0), (1, .int q')] → Wd D vwCl (hTy tc) b S s H locs → W p l e { frames := 2, cells := 0, slots := 0, locals := 80 } s m args below meth c H locs 0 0 (MQ below (va_Qv (fun _ : Unit => True) (fun _ => Wp D vwCl (hTy tc) b Sz) (fun q => b ≤ q)) args s 0 0 (fun q => b ≤ q)) (F0 m 68 ls [])) (fun q' x3 h hin hex => ?_) hX _ _ ei4 _ _ _ (lv_sub hl [2, 1, 0] rfl) hW
  obtain ⟨i1, i2⟩ := q'
  intro H locs ls hl hW
  unfold fFr_addSum_L5 at h
  refine lv_iload_n hx hb dFr_addSum_5 rfl (lv_at hl 2 rfl) ?_
  refine lv_aload_n hx hb dFr_addSum_6 rfl (lv_at hl 0 rfl) ?_
  replace h := ob h; obtain ⟨v5, ev5, h⟩ := h
  refine hq_get hx hb hts hown hW (gI_V ev5) (F_Fr_15 hts) dFr_addSum_7 ?_
  refine lv_icmp_ge hx hb dFr_addSum_10 (tgt := 68) rfl (fun hc18 => ?_) (fun hc18 => ?_)
  · replace h := if_t hc18 h
    exact hex _ (Option.some.inj h).symm _ _ _ (lv_sub hl [0, 1] rfl) hW
  · replace h := if_f hc18 h
    refine lv_iload_n hx hb dFr_addSum_13 rfl (lv_at hl 2 rfl) ?_
    refine lv_bipush hx hb dFr_addSum_14 (v := (41 : Int32)) rfl ?_
    refine lv_icmp_ge hx hb dFr_addSum_16 (tgt := 68) rfl (fun hc17 => ?_) (fun hc17 => ?_)
    · replace h := if_t hc17 h
      exact hex _ (Option.some.inj h).symm _ _ _ (lv_sub hl [0, 1] rfl) hW
    · replace h := if_f hc17 h
      refine lv_iload_n hx hb dFr_addSum_19 rfl (lv_at hl 1 rfl) ?_
      refine lv_aload_n hx hb dFr_addSum_20 rfl (lv_at hl 0 rfl) ?_
      replace h := ob h; obtain ⟨r6, er6, h⟩ := h
      refine hq_get hx hb hts hown hW (gR_V er6) (F_Fr_9 hts) dFr_addSum_21 ?_
      refine lv_iload_n hx hb dFr_addSum_24 rfl (lv_at hl 2 rfl) ?_
      replace h := ob h; obtain ⟨a7, hra7, h⟩ := h
      subst hra7
      replace h := ob h; obtain ⟨v8, ev8, h⟩ := h
      refine hq_iald hx hb hW ev8 rfl dFr_addSum_25 ?_
      refine lv_ixor hx hb dFr_addSum_26 ?_
      refine lv_istore_n (lv' := [(1, .int (i1 ^^^ v8)), (0, .ref t0), (2, .int i2)]) hx hb dFr_addSum_27 rfl hl (Nat.le_of_ble_eq_true rfl) (by first | rfl | (simp [List.filter, rf_cat] <;> rfl)) (fun ls hl => ?_)
      refine lv_iconst hx hb dFr_addSum_28 (v := (0 : Int32)) rfl ?_
      refine lv_istore_n (lv' := [(3, .int (0 : Int32)), (1, .int (i1 ^^^ v8)), (0, .ref t0), (2, .int i2)]) hx hb dFr_addSum_29 rfl hl (Nat.le_of_ble_eq_true rfl) (by first | rfl | (simp [List.filter, rf_cat] <;> rfl)) (fun ls hl => ?_)
      replace h := ob h; obtain ⟨i12, ei12, h⟩ := h
      have hX : (fun q' => ∀ (H : Heap) (locs : List Loc) (ls : Array Slot), lv_has ls 4 [(0, .ref t0), (1, .int q'), (2, .int i2)] → Wd D vwCl (hTy tc) b S s H locs → W p l e { frames := 2, cells := 0, slots := 0, locals := 80 } s m args below meth c H locs 0 0 (MQ below (va_Qv (fun _ : Unit => True) (fun _ => Wp D vwCl (hTy tc) b Sz) (fun q => b ≤ q)) args s 0 0 (fun q => b ≤ q)) (F0 m 62 ls [])) i12 := by
        intro H locs ls hl hW
        refine lv_iinc (k := 2) (v := i2 + 1) (lv' := [(2, .int (i2 + 1)), (0, .ref t0), (1, .int i12)]) hx hb dFr_addSum_62 hl rfl rfl (Nat.le_of_ble_eq_true rfl) (by first | rfl | (simp [List.filter, rf_cat] <;> rfl)) (fun ls hl => ?_)
        refine lv_goto hx hb dFr_addSum_65 (tgt := 5) rfl ?_
        exact hin _ (Option.some.inj h).symm _ _ _ (lv_sub hl [1, 2, 0] rfl) hW
      refine lp_ind (P := fun q' => ∀ (H : Heap) (locs : List Loc) (ls : Array Slot), lv_has ls 4 [(0, .ref t0), (1, .int q'.1), (2, .int i2), (3, .int q'.2)] → Wd D vwCl (hTy tc) b S s H locs → W p l e { frames := 2, cells := 0, slots := 0, locals := 80 } s m args below meth c H locs 0 0 (MQ below (va_Qv (fun _ : Unit => True) (fun _ => Wp D vwCl (hTy tc) b Sz) (fun q => b ≤ q)) args s 0 0 (fun q => b ≤ q)) (F0 m 30 ls [])) (Q := fun q' => ∀ (H : Heap) (locs : List Loc) (ls : Array Slot), lv_has ls 4 [(0, .ref t0), (1, .int q'), (2, .int i2)] → Wd D vwCl (hTy tc) b S s H locs → W p l e { frames := 2, cells := 0, slots := 0, locals := 80 } s m args below meth c H locs 0 0 (MQ below (va_Qv (fun _ : Unit => True) (fun _ => Wp D vwCl (hTy tc) b Sz) (fun q => b ≤ q)) args s 0 0 (fun q => b ≤ q)) (F0 m 62 ls [])) (fun q' x11 h hin hex => ?_) hX _ _ ei12 _ _ _ (lv_sub hl [2, 1, 3, 0] rfl) hW
      obtain ⟨i9, i10⟩ := q'
      intro H locs ls hl hW
      unfold fFr_addSum_L30 at h
      refine lv_iload_n hx hb dFr_addSum_30 rfl (lv_at hl 3 rfl) ?_
      refine lv_bipush hx hb dFr_addSum_31 (v := (8 : Int32)) rfl ?_
      refine lv_icmp_ge hx hb dFr_addSum_33 (tgt := 62) rfl (fun hc16 => ?_) (fun hc16 => ?_)
      · replace h := if_t hc16 h
        exact hex _ (Option.some.inj h).symm _ _ _ (lv_sub hl [0, 1, 2] rfl) hW
      · replace h := if_f hc16 h
        refine lv_iload_n hx hb dFr_addSum_36 rfl (lv_at hl 1 rfl) ?_
        refine lv_iconst hx hb dFr_addSum_37 (v := (1 : Int32)) rfl ?_
        refine lv_iand hx hb dFr_addSum_38 ?_
        refine lv_iconst hx hb dFr_addSum_39 (v := (1 : Int32)) rfl ?_
        replace h := ob h; obtain ⟨q14, e55, h⟩ := h
        have hJ55 : ∀ q', q' = q14 → ∀ (H : Heap) (locs : List Loc) (ls : Array Slot), lv_has ls 4 [(0, .ref t0), (2, .int i2), (3, .int i10)] → Wd D vwCl (hTy tc) b S s H locs → W p l e { frames := 2, cells := 0, slots := 0, locals := 80 } s m args below meth c H locs 0 0 (MQ below (va_Qv (fun _ : Unit => True) (fun _ => Wp D vwCl (hTy tc) b Sz) (fun q => b ≤ q)) args s 0 0 (fun q => b ≤ q)) (F0 m 55 ls [.int q']) := by
          intro i13 hq'; subst hq'
          intro H locs ls hl hW
          refine lv_istore_n (lv' := [(1, .int i13), (0, .ref t0), (2, .int i2), (3, .int i10)]) hx hb dFr_addSum_55 rfl hl (Nat.le_of_ble_eq_true rfl) (by first | rfl | (simp [List.filter, rf_cat] <;> rfl)) (fun ls hl => ?_)
          refine lv_iinc (k := 3) (v := i10 + 1) (lv' := [(3, .int (i10 + 1)), (1, .int i13), (0, .ref t0), (2, .int i2)]) hx hb dFr_addSum_56 hl rfl rfl (Nat.le_of_ble_eq_true rfl) (by first | rfl | (simp [List.filter, rf_cat] <;> rfl)) (fun ls hl => ?_)
          refine lv_goto hx hb dFr_addSum_59 (tgt := 30) rfl ?_
          exact hin _ (Option.some.inj h).symm _ _ _ (lv_sub hl [2, 1, 3, 0] rfl) hW
        clear h; have h := e55; clear e55
        refine lv_icmp_ne hx hb dFr_addSum_40 (tgt := 52) rfl (fun hc15 => ?_) (fun hc15 => ?_)
        · replace h := if_f hc15 h
          refine lv_iload_n hx hb dFr_addSum_52 rfl (lv_at hl 1 rfl) ?_
          refine lv_iconst hx hb dFr_addSum_53 (v := (1 : Int32)) rfl ?_
          refine lv_ishr hx hb dFr_addSum_54 ?_
          exact hJ55 _ (Option.some.inj h) _ _ _ (lv_sub hl [0, 2, 3] rfl) hW
        · replace h := if_t hc15 h
          refine lv_iload_n hx hb dFr_addSum_43 rfl (lv_at hl 1 rfl) ?_
          refine lv_iconst hx hb dFr_addSum_44 (v := (1 : Int32)) rfl ?_
          refine lv_ishr hx hb dFr_addSum_45 ?_
          refine lv_ldc hx hb (v := (40961 : Int32)) hown (hts _ w_464) dFr_addSum_46 ?_
          refine lv_ixor hx hb dFr_addSum_48 ?_
          refine lv_goto hx hb dFr_addSum_49 (tgt := 55) rfl ?_
          exact hJ55 _ (Option.some.inj h) _ _ _ (lv_sub hl [0, 2, 3] rfl) hW
def fFr_copyFrom_L10 (t0 : Nat) (t1 : Nat) : Int32 × Ws → Option ((Int32 × Ws) ⊕ (Ws)) :=
  fun (i3, S4) => (gI S4 t0 [0] 1).bind fun v7 => if v7 ≤ i3 then some (.inr S4) else if (41 : Int32) ≤ i3 then some (.inr S4) else (gR S4 t0 [0] 0).bind fun r8 => (gR S4 t1 [0] 0).bind fun r9 => (r9).bind fun a10 => (aI S4 a10 0 i3).bind fun v11 => (r8).bind fun a12 => (sI S4 a12 0 i3 v11).bind fun S13 => some (.inl (i3 + 1, S13))
def fFr_copyFrom (t0 : Nat) (t1 : Nat) (S : Ws) : Option (Ws) :=
  (gI S t1 [0] 1).bind fun v1 => (pV S t0 [0] 1 (.int v1)).bind fun S2 => (lp (fFr_copyFrom_L10 t0 t1) 1000 ((0 : Int32), S2)).bind fun S6 => some S6
set_option maxRecDepth 100000 in
set_option maxHeartbeats 4000000 in
theorem kFr_copyFrom (l : Launch) (D : va_G) (tc : Nat → ClassId) (b : Nat) (t0 : Nat) (t1 : Nat) (S Sz : Ws) (h : fFr_copyFrom t0 t1 S = some Sz) : Met l yFr_copyFrom wsFr_copyFrom { frames := 1, cells := 0, slots := 0, locals := 40 } (va_Pc [.ref t0, .ref t1] (Wp D vwCl (hTy tc) b S)) (va_Qv (fun _ : Unit => True) (fun _ => Wp D vwCl (hTy tc) b Sz) (fun q => b ≤ q)) 0 0 (fun q => b ≤ q) := by
  refine hq_ofW (cc := cFr_copyFrom) (maxL := 3) (ret := none) (by decide) rfl (Nat.le_of_ble_eq_true rfl) fun p e s m args below meth c hx hb hr hts hown hlocks hnm hml H locs ls hl hW => ?_
  have hts : ∀ w ∈ lwG, w.before args s = true := fun w h => hts w (List.mem_cons_of_mem _ h)
  have hown : s.vm.findClass "SerialPlant$Frame" = some m.cls := hown
  have hl : lv_has ls 3 [(0, .ref t0), (1, .ref t1)] := hl
  unfold fFr_copyFrom at h
  refine lv_aload_n hx hb dFr_copyFrom_0 rfl (lv_at hl 0 rfl) ?_
  refine lv_aload_n hx hb dFr_copyFrom_1 rfl (lv_at hl 1 rfl) ?_
  replace h := ob h; obtain ⟨v1, ev1, h⟩ := h
  refine hq_get hx hb hts hown hW (gI_V ev1) (F_Fr_15 hts) dFr_copyFrom_2 ?_
  replace h := ob h; obtain ⟨S2, eS2, h⟩ := h
  refine hq_put hx hb hts hown hW eS2 (F_Fr_15 hts) P_Fr_Fr_1 rfl rfl dFr_copyFrom_5 (fun H locs hW => ?_)
  refine lv_iconst hx hb dFr_copyFrom_8 (v := (0 : Int32)) rfl ?_
  refine lv_istore_n (lv' := [(2, .int (0 : Int32)), (0, .ref t0), (1, .ref t1)]) hx hb dFr_copyFrom_9 rfl hl (Nat.le_of_ble_eq_true rfl) (by first | rfl | (simp [List.filter, rf_cat] <;> rfl)) (fun ls hl => ?_)
  replace h := ob h; obtain ⟨S6, eS6, h⟩ := h
  have hX : (fun q' => ∀ (H : Heap) (locs : List Loc) (ls : Array Slot), lv_has ls 3 [] → Wd D vwCl (hTy tc) b q' s H locs → W p l e { frames := 1, cells := 0, slots := 0, locals := 40 } s m args below meth c H locs 0 0 (MQ below (va_Qv (fun _ : Unit => True) (fun _ => Wp D vwCl (hTy tc) b Sz) (fun q => b ≤ q)) args s 0 0 (fun q => b ≤ q)) (F0 m 42 ls [])) S6 := by
    intro H locs ls hl hW
    exact hq_vret hx hb hr hlocks h (Nat.le_of_ble_eq_true rfl) (Nat.le_of_ble_eq_true rfl) hW dFr_copyFrom_42
  refine lp_ind (P := fun q' => ∀ (H : Heap) (locs : List Loc) (ls : Array Slot), lv_has ls 3 [(0, .ref t0), (1, .ref t1), (2, .int q'.1)] → Wd D vwCl (hTy tc) b q'.2 s H locs → W p l e { frames := 1, cells := 0, slots := 0, locals := 40 } s m args below meth c H locs 0 0 (MQ below (va_Qv (fun _ : Unit => True) (fun _ => Wp D vwCl (hTy tc) b Sz) (fun q => b ≤ q)) args s 0 0 (fun q => b ≤ q)) (F0 m 10 ls [])) (Q := fun q' => ∀ (H : Heap) (locs : List Loc) (ls : Array Slot), lv_has ls 3 [] → Wd D vwCl (hTy tc) b q' s H locs → W p l e { frames := 1, cells := 0, slots := 0, locals := 40 } s m args below meth c H locs 0 0 (MQ below (va_Qv (fun _ : Unit => True) (fun _ => Wp D vwCl (hTy tc) b Sz) (fun q => b ≤ q)) args s 0 0 (fun q => b ≤ q)) (F0 m 42 ls [])) (fun q' x5 h hin hex => ?_) hX _ _ eS6 _ _ _ (lv_sub hl [1, 2, 0] rfl) hW
  obtain ⟨i3, S4⟩ := q'
  intro H locs ls hl hW
  unfold fFr_copyFrom_L10 at h
  refine lv_iload_n hx hb dFr_copyFrom_10 rfl (lv_at hl 2 rfl) ?_
  refine lv_aload_n hx hb dFr_copyFrom_11 rfl (lv_at hl 0 rfl) ?_
  replace h := ob h; obtain ⟨v7, ev7, h⟩ := h
  refine hq_get hx hb hts hown hW (gI_V ev7) (F_Fr_15 hts) dFr_copyFrom_12 ?_
  refine lv_icmp_ge hx hb dFr_copyFrom_15 (tgt := 42) rfl (fun hc15 => ?_) (fun hc15 => ?_)
  · replace h := if_t hc15 h
    exact hex _ (Option.some.inj h).symm _ _ _ (lv_sub hl [] rfl) hW
  · replace h := if_f hc15 h
    refine lv_iload_n hx hb dFr_copyFrom_18 rfl (lv_at hl 2 rfl) ?_
    refine lv_bipush hx hb dFr_copyFrom_19 (v := (41 : Int32)) rfl ?_
    refine lv_icmp_ge hx hb dFr_copyFrom_21 (tgt := 42) rfl (fun hc14 => ?_) (fun hc14 => ?_)
    · replace h := if_t hc14 h
      exact hex _ (Option.some.inj h).symm _ _ _ (lv_sub hl [] rfl) hW
    · replace h := if_f hc14 h
      refine lv_aload_n hx hb dFr_copyFrom_24 rfl (lv_at hl 0 rfl) ?_
      replace h := ob h; obtain ⟨r8, er8, h⟩ := h
      refine hq_get hx hb hts hown hW (gR_V er8) (F_Fr_9 hts) dFr_copyFrom_25 ?_
      refine lv_iload_n hx hb dFr_copyFrom_28 rfl (lv_at hl 2 rfl) ?_
      refine lv_aload_n hx hb dFr_copyFrom_29 rfl (lv_at hl 1 rfl) ?_
      replace h := ob h; obtain ⟨r9, er9, h⟩ := h
      refine hq_get hx hb hts hown hW (gR_V er9) (F_Fr_9 hts) dFr_copyFrom_30 ?_
      refine lv_iload_n hx hb dFr_copyFrom_33 rfl (lv_at hl 2 rfl) ?_
      replace h := ob h; obtain ⟨a10, hra10, h⟩ := h
      subst hra10
      replace h := ob h; obtain ⟨v11, ev11, h⟩ := h
      refine hq_iald hx hb hW ev11 rfl dFr_copyFrom_34 ?_
      replace h := ob h; obtain ⟨a12, hra12, h⟩ := h
      subst hra12
      replace h := ob h; obtain ⟨S13, eS13, h⟩ := h
      refine hq_iast hx hb hW eS13 rfl dFr_copyFrom_35 (fun H locs hW => ?_)
      refine lv_iinc (k := 2) (v := i3 + 1) (lv' := [(2, .int (i3 + 1)), (0, .ref t0), (1, .ref t1)]) hx hb dFr_copyFrom_36 hl rfl rfl (Nat.le_of_ble_eq_true rfl) (by first | rfl | (simp [List.filter, rf_cat] <;> rfl)) (fun ls hl => ?_)
      refine lv_goto hx hb dFr_copyFrom_39 (tgt := 10) rfl ?_
      exact hin _ (Option.some.inj h).symm _ _ _ (lv_sub hl [1, 2, 0] rfl) hW
