section WM2
variable {b : Nat} {X : Xs} {w u f a c v : Nat} {L : List Int32}
theorem m_c1 (hf : f < 128) (h : (1 ≤ f ∧ f ≤ 4) ∨ f = 15 ∨ f = 16) : (if nI f < (1 : Int32) then fMo_writeRequest_J17_1 (nI f) else if nI f ≤ (4 : Int32) then some (1 : Int32) else fMo_writeRequest_J17_1 (nI f)) = some (1 : Int32) := (m_counted hf).trans (congrArg some (if_pos h))
theorem m_c0 (hf : f < 128) (h : ¬ ((1 ≤ f ∧ f ≤ 4) ∨ f = 15 ∨ f = 16)) : (if nI f < (1 : Int32) then fMo_writeRequest_J17_1 (nI f) else if nI f ≤ (4 : Int32) then some (1 : Int32) else fMo_writeRequest_J17_1 (nI f)) = some (0 : Int32) := (m_counted hf).trans (congrArg some (if_neg h))
theorem m_w1 (hf : f < 128) (h : f = 5 ∨ f = 6 ∨ f = 22 ∨ f = 8) : (if nI f = (5 : Int32) then some (1 : Int32) else if nI f = (6 : Int32) then some (1 : Int32) else if nI f = (22 : Int32) then some (1 : Int32) else if nI f = (8 : Int32) then some (1 : Int32) else some (0 : Int32)) = some (1 : Int32) := (m_worded hf).trans (congrArg some (if_pos h))
theorem m_w0 (hf : f < 128) (h : ¬ (f = 5 ∨ f = 6 ∨ f = 22 ∨ f = 8)) : (if nI f = (5 : Int32) then some (1 : Int32) else if nI f = (6 : Int32) then some (1 : Int32) else if nI f = (22 : Int32) then some (1 : Int32) else if nI f = (8 : Int32) then some (1 : Int32) else some (0 : Int32)) = some (0 : Int32) := (m_worded hf).trans (congrArg some (if_neg h))
theorem z01 {P : Prop} [Decidable P] : ((if P then (1 : Int32) else 0) = 0) = ¬ P := by
  by_cases h : P <;> simp [h]
theorem m_writeRequest (hw : w < 4) (hu : u < 248) (hf1 : 1 ≤ f) (hf : f < 128) (ha : a < 65536) (hc : c ≤ 16) (hv : v < 2 ^ 64) : ∃ Y, fMo_writeRequest (b + 56) (nI w) (nI u) (nI f) (nI a) (nI c) (lN v) (wX b X) = some (wX b Y) ∧ FrM Y w (reqL u f a c v) ∧ ChM w X Y := by
  obtain ⟨Y, e1, f1, c1⟩ := s_beginM (b := b) (X := X) hw (u := nI u) (f := nI f)
  have hla : Lt 65536 (nI a) := ⟨a, ha, rfl⟩
  have hlc : Lt 65536 (nI c) := ⟨c, by omega, rfl⟩
  have hl0 : Lt 65536 (nI (wN v 0)) := ⟨_, wN_lt v 0, rfl⟩
  have hl1 : Lt 65536 (nI (wN v 1)) := ⟨_, wN_lt v 1, rfl⟩
  obtain ⟨Y2, e2, f2, c2⟩ := s_addW (b := b) hw f1 (by simp) hla
  obtain ⟨Y3, e3, f3, c3⟩ := s_addW (b := b) hw f2 (by simp [wd_len]) hlc
  obtain ⟨Y4, e4, f4, c4⟩ := s_addW (b := b) hw f2 (by simp [wd_len]) hl0
  obtain ⟨Y5, e5, f5, c5⟩ := s_addW (b := b) hw f4 (by simp [wd_len]) hl1
  have w0 : ∀ S, fMo_word (lN v) (0 : Int32) S = some (nI (wN v 0), S) := fun S => m_word S hv (k := 0) (by decide)
  have w1 : ∀ S, fMo_word (lN v) (1 : Int32) S = some (nI (wN v 1), S) := fun S => m_word S hv (k := 1) (by decide)
  have hm := reqL_eq (u := u) (f := f) (a := a) (c := c) (v := v)
  have hbl := body_len f a v hc
  have hB : B8 ([nI u, nI f] ++ bodyL f a c v) := (B8.cons (B8_nI (by omega)) (B8.cons (B8_nI (by omega)) B8.nil)).app (body_B8 f a v hc)
  have fin : ∀ (Z : Xs), FrM Z w ([nI u, nI f] ++ bodyL f a c v) → ChM w X Z → ∃ Z', fMo_addSum (b + 56) (nI w) (wX b Z) = some (wX b Z') ∧ FrM Z' w (reqL u f a c v) ∧ ChM w X Z' := by
    intro Z hz cz
    obtain ⟨Z', a1, a2, a3⟩ := s_sumM (b := b) hw hz (by simp; omega) hB
    refine ⟨Z', a1, ?_, cz.tr a3⟩
    rw [hm]
    exact a2
  have jc : ∀ i : Int32, i = 1 → fMo_writeRequest_J76_2 (wX b Y) (b + 56) (nI w) (nI a) i (lN v) (nI c) = some (wX b Y3) := by
    intro i hi
    subst hi
    unfold fMo_writeRequest_J76_2
    rw [bs mo_o, bs e2, if_neg (by decide), bs mo_o, bs e3]
  have jw : fMo_writeRequest_J76_2 (wX b Y) (b + 56) (nI w) (nI a) (0 : Int32) (lN v) (nI c) = some (wX b Y4) := by
    unfold fMo_writeRequest_J76_2
    rw [bs mo_o, bs e2, if_pos rfl, bs (w0 _)]
    dsimp only
    rw [bs mo_o, bs e4]
  have q22' : (nI f = (22 : Int32)) = (f = 22) := q_22 (by omega)
  have q15' : (nI f = (15 : Int32)) = (f = 15) := q_15 (by omega)
  have q16' : (nI f = (16 : Int32)) = (f = 16) := q_16 (by omega)
  by_cases k1 : f = 1 ∨ f = 2 ∨ f = 3 ∨ f = 4
  · have hb : bodyL f a c v = wd (nI a) ++ wd (nI c) := by unfold bodyL; rw [if_pos k1]
    obtain ⟨Z, a1, a2, a3⟩ := fin Y3 (by rw [hb]; simpa only [List.append_assoc] using f3) ((c1.tr c2).tr c3)
    refine ⟨Z, ?_, a2, a3⟩
    unfold fMo_writeRequest
    rw [bs mo_o, bs e1, bs (m_c1 hf (by omega)), bs (m_w0 hf (by omega)), if_neg (by decide), bs (jc 1 rfl), if_neg (by rw [q22']; omega), if_neg (by rw [q15']; omega), if_neg (by rw [q16']; omega), Option.bind_some, bs mo_o, bs a1]
  · by_cases k2 : f = 5 ∨ f = 6 ∨ f = 8
    · have hb : bodyL f a c v = wd (nI a) ++ wd (nI (wN v 0)) := by unfold bodyL; rw [if_neg k1, if_pos k2]
      obtain ⟨Z, a1, a2, a3⟩ := fin Y4 (by rw [hb]; simpa only [List.append_assoc] using f4) ((c1.tr c2).tr c4)
      refine ⟨Z, ?_, a2, a3⟩
      unfold fMo_writeRequest
      rw [bs mo_o, bs e1, bs (m_c0 hf (by omega)), bs (m_w1 hf (by omega)), if_pos rfl, if_neg (by decide), bs jw, if_neg (by rw [q22']; omega), if_neg (by rw [q15']; omega), if_neg (by rw [q16']; omega), Option.bind_some, bs mo_o, bs a1]
    · by_cases k3 : f = 22
      · have hb : bodyL f a c v = wd (nI a) ++ wd (nI (wN v 0)) ++ wd (nI (wN v 1)) := by unfold bodyL; rw [if_neg k1, if_neg k2, if_pos k3]
        obtain ⟨Z, a1, a2, a3⟩ := fin Y5 (by rw [hb]; simpa only [List.append_assoc] using f5) (((c1.tr c2).tr c4).tr c5)
        refine ⟨Z, ?_, a2, a3⟩
        unfold fMo_writeRequest
        rw [bs mo_o, bs e1, bs (m_c0 hf (by omega)), bs (m_w1 hf (by omega)), if_pos rfl, if_neg (by decide), bs jw, if_pos (by rw [q22']; exact k3), bs (w1 _)]
        dsimp only
        rw [bs mo_o, bs e5, Option.bind_some, bs mo_o, bs a1]
      · by_cases k4 : f = 15
        · have hb : bodyL f a c v = wd (nI a) ++ wd (nI c) ++ bitsL v c := by unfold bodyL; rw [if_neg k1, if_neg k2, if_neg k3, if_pos k4]
          obtain ⟨Y6, e6, f6, c6⟩ := m_addBits (b := b) hw hv hc f3 (by simp [wd_len]; omega)
          obtain ⟨Z, a1, a2, a3⟩ := fin Y6 (by rw [hb]; simpa only [List.append_assoc] using f6) (((c1.tr c2).tr c3).tr c6)
          refine ⟨Z, ?_, a2, a3⟩
          unfold fMo_writeRequest
          rw [bs mo_o, bs e1, bs (m_c1 hf (by omega)), bs (m_w0 hf (by omega)), if_neg (by decide), bs (jc 1 rfl), if_neg (by rw [q22']; omega), if_pos (by rw [q15']; omega), bs mo_o, bs e6, Option.bind_some, bs mo_o, bs a1]
        · by_cases k5 : f = 16
          · have hb : bodyL f a c v = wd (nI a) ++ wd (nI c) ++ wordsL v c := by unfold bodyL; rw [if_neg k1, if_neg k2, if_neg k3, if_neg k4, if_pos k5]
            obtain ⟨Y6, e6, f6, c6⟩ := m_addWords (b := b) hw hv hc f3 (by simp [wd_len]; omega)
            obtain ⟨Z, a1, a2, a3⟩ := fin Y6 (by rw [hb]; simpa only [List.append_assoc] using f6) (((c1.tr c2).tr c3).tr c6)
            refine ⟨Z, ?_, a2, a3⟩
            unfold fMo_writeRequest
            rw [bs mo_o, bs e1, bs (m_c1 hf (by omega)), bs (m_w0 hf (by omega)), if_neg (by decide), bs (jc 1 rfl), if_neg (by rw [q22']; omega), if_neg (by rw [q15']; omega), if_pos (by rw [q16']; omega), bs mo_o, bs e6, Option.bind_some, bs mo_o, bs a1]
          · have hb : bodyL f a c v = [] := by unfold bodyL; rw [if_neg k1, if_neg k2, if_neg k3, if_neg k4, if_neg k5]
            obtain ⟨Z, a1, a2, a3⟩ := fin Y (by rw [hb, List.append_nil]; exact f1) c1
            refine ⟨Z, ?_, a2, a3⟩
            unfold fMo_writeRequest
            rw [bs mo_o, bs e1, bs (m_c0 hf (by omega)), bs (m_w0 hf (by omega)), if_pos rfl, if_pos rfl, Option.bind_some, if_neg (by rw [q22']; omega), if_neg (by rw [q15']; omega), if_neg (by rw [q16']; omega), Option.bind_some, bs mo_o, bs a1]
theorem m_within {n lo hi : Nat} (S : Ws) (h1 : n < 2 ^ 31) (h2 : lo < 2 ^ 31) (h3 : hi < 2 ^ 31) : fMo_within (nI n) (nI lo) (nI hi) S = some (if lo ≤ n ∧ n ≤ hi then 1 else 0, S) := by
  unfold fMo_within
  have e1 : (nI n < nI lo) = (n < lo) := propext (nI_ltI h1 h2)
  have e2 : (nI hi < nI n) = (hi < n) := propext (nI_ltI h3 h1)
  simp only [e1, e2, bz_0, bz_1, Option.bind_some]
  by_cases c1 : n < lo
  · rw [if_pos c1, if_neg (by omega)]
  · rw [if_neg c1]
    by_cases c2 : hi < n
    · rw [if_pos c2, if_neg (by omega)]
    · rw [if_neg c2, if_pos (by omega)]
theorem j134 (S : Ws) (hf : f < 128) (ha : a < 65536) : fMo_wrong_J134_1 (nI f) (nI a) S = some (if f = 8 ∧ ¬ (a = 0 ∨ a = 1 ∨ a = 4) then 1 else 0, S) := by
  unfold fMo_wrong_J134_1
  simp (disch := omega) only [q_0, q_1, q_4, q_8]
  (repeat' split)
  all_goals first | rfl | (exfalso; omega)
theorem j117 (S : Ws) {x : Nat} (hx : x < 65536) (hf : f < 128) (ha : a < 65536) : fMo_wrong_J117_2 (nI f) (nI x) (nI a) S = some (if (f = 5 ∧ ¬ (x = 0 ∨ x = 65280)) ∨ (f = 8 ∧ ¬ (a = 0 ∨ a = 1 ∨ a = 4)) then 1 else 0, S) := by
  unfold fMo_wrong_J117_2
  simp (disch := omega) only [q_0, q_5, q_65280, j134 S hf ha]
  (repeat' split)
  all_goals first | rfl | (exfalso; omega)
theorem j103 (S : Ws) {x : Nat} (hx : x < 65536) (hf : f < 128) (ha : a < 65536) (hc : c ≤ 16) {i8 : Int32} {P : Prop} [Decidable P] (h8 : i8 = if P then 1 else 0) : fMo_wrong_J103_3 i8 (nI f) (nI x) (nI a) (nI c) S = some (if (P ∧ ¬ (1 ≤ c ∧ c ≤ 4)) ∨ (f = 5 ∧ ¬ (x = 0 ∨ x = 65280)) ∨ (f = 8 ∧ ¬ (a = 0 ∨ a = 1 ∨ a = 4)) then 1 else 0, S) := by
  have i2 : fMo_within (nI c) (1 : Int32) (4 : Int32) S = some (if 1 ≤ c ∧ c ≤ 4 then 1 else 0, S) := m_within (lo := 1) (hi := 4) S (by omega) (by decide) (by decide)
  subst h8
  unfold fMo_wrong_J103_3
  simp only [i2, Option.bind_some, z01, j117 S hx hf ha]
  by_cases hP : P
  · simp only [hP, not_true_eq_false, if_false, true_and]
    (repeat' split)
    all_goals first | rfl | (exfalso; omega)
  · simp only [hP, not_false_eq_true, if_true, false_and, false_or]
theorem j198 (hf : f < 128) (ha : a < 65536) : fMo_wrong_J198_4 (nI f) (nI a) = some (if (f = 6 ∨ f = 22) ∧ 7 < a then 1 else 0) := by
  unfold fMo_wrong_J198_4
  simp (disch := omega) only [q_6, q_22, le_7]
  (repeat' split)
  all_goals first | rfl | (exfalso; omega)
theorem j187 (hf : f < 128) (ha : a < 65536) : fMo_wrong_J187_5 (nI f) (nI a) = some (if (f = 5 ∧ 15 < a) ∨ ((f = 6 ∨ f = 22) ∧ 7 < a) then 1 else 0) := by
  unfold fMo_wrong_J187_5
  simp (disch := omega) only [q_5, g_15, j198 hf ha]
  (repeat' split)
  all_goals first | rfl | (exfalso; omega)
theorem j174 (hf : f < 128) (ha : a < 65536) (hc : c ≤ 16) {i8 : Int32} {P : Prop} [Decidable P] (h8 : i8 = if P then 1 else 0) : fMo_wrong_J174_6 i8 (nI f) (nI a) (nI c) = some (if (P ∧ 8 < a + c) ∨ (f = 5 ∧ 15 < a) ∨ ((f = 6 ∨ f = 22) ∧ 7 < a) then 1 else 0) := by
  subst h8
  unfold fMo_wrong_J174_6
  simp (disch := omega) only [nI_add, g_8, z01, j187 hf ha]
  by_cases hP : P
  · simp only [hP, not_true_eq_false, if_false, true_and]
    (repeat' split)
    all_goals first | rfl | (exfalso; omega)
  · simp only [hP, not_false_eq_true, if_true, false_and, false_or]
theorem j88 (S : Ws) {x : Nat} (hx : x < 65536) (hf : f < 128) (ha : a < 65536) (hc : c ≤ 16) {i3 i8 : Int32} {P R : Prop} [Decidable P] [Decidable R] (h3 : i3 = if R then 1 else 0) (h8 : i8 = if P then 1 else 0) : fMo_wrong_J88_7 i3 i8 (nI f) (nI x) (nI a) (nI c) S = some (if (R ∧ ¬ (1 ≤ c ∧ c ≤ 16)) ∨ (P ∧ ¬ (1 ≤ c ∧ c ≤ 4)) ∨ (f = 5 ∧ ¬ (x = 0 ∨ x = 65280)) ∨ (f = 8 ∧ ¬ (a = 0 ∨ a = 1 ∨ a = 4)) then 3 else if (R ∧ 16 < a + c) ∨ (P ∧ 8 < a + c) ∨ (f = 5 ∧ 15 < a) ∨ ((f = 6 ∨ f = 22) ∧ 7 < a) then 2 else 0, S) := by
  have i1 : fMo_within (nI c) (1 : Int32) (16 : Int32) S = some (if 1 ≤ c ∧ c ≤ 16 then 1 else 0, S) := m_within (lo := 1) (hi := 16) S (by omega) (by decide) (by decide)
  have e3 : (if i3 = 0 then fMo_wrong_J103_3 i8 (nI f) (nI x) (nI a) (nI c) S else (fMo_within (nI c) (1 : Int32) (16 : Int32) S).bind fun (v30, S29) => if v30 = 0 then some ((1 : Int32), S29) else fMo_wrong_J103_3 i8 (nI f) (nI x) (nI a) (nI c) S29) = some (if (R ∧ ¬ (1 ≤ c ∧ c ≤ 16)) ∨ (P ∧ ¬ (1 ≤ c ∧ c ≤ 4)) ∨ (f = 5 ∧ ¬ (x = 0 ∨ x = 65280)) ∨ (f = 8 ∧ ¬ (a = 0 ∨ a = 1 ∨ a = 4)) then 1 else 0, S) := by
    subst h3
    simp only [z01, i1, Option.bind_some, j103 S hx hf ha hc h8]
    by_cases hR : R
    · by_cases d : 1 ≤ c ∧ c ≤ 16
      · simp only [hR, d, not_true_eq_false, if_false, and_false, false_or]
        simp
      · simp only [hR, d, not_true_eq_false, not_false_eq_true, if_false, if_true, true_and, true_or]
    · simp only [hR, not_false_eq_true, if_true, false_and, false_or]
  have e2 : (if i3 = 0 then fMo_wrong_J174_6 i8 (nI f) (nI a) (nI c) else if (16 : Int32) < nI a + nI c then some (1 : Int32) else fMo_wrong_J174_6 i8 (nI f) (nI a) (nI c)) = some (if (R ∧ 16 < a + c) ∨ (P ∧ 8 < a + c) ∨ (f = 5 ∧ 15 < a) ∨ ((f = 6 ∨ f = 22) ∧ 7 < a) then 1 else 0) := by
    subst h3
    simp (disch := omega) only [z01, nI_add, g_16, j174 hf ha hc h8]
    by_cases hR : R
    · by_cases d : 16 < a + c
      · simp only [hR, d, not_true_eq_false, if_false, if_true, true_and, true_or]
      · simp only [hR, d, not_true_eq_false, if_false, and_false, false_or]
    · simp only [hR, not_false_eq_true, if_true, false_and, false_or]
  unfold fMo_wrong_J88_7
  rw [bs e3]
  dsimp only
  rw [bs e2]
  simp only [z01]
  by_cases d1 : (R ∧ ¬ (1 ≤ c ∧ c ≤ 16)) ∨ (P ∧ ¬ (1 ≤ c ∧ c ≤ 4)) ∨ (f = 5 ∧ ¬ (x = 0 ∨ x = 65280)) ∨ (f = 8 ∧ ¬ (a = 0 ∨ a = 1 ∨ a = 4))
  · rw [if_neg (fun h => h d1), if_pos d1]
  · rw [if_pos d1, if_neg d1]
    by_cases d2 : (R ∧ 16 < a + c) ∨ (P ∧ 8 < a + c) ∨ (f = 5 ∧ 15 < a) ∨ ((f = 6 ∨ f = 22) ∧ 7 < a)
    · rw [if_neg (fun h => h d2), if_pos d2]
    · rw [if_pos d2, if_neg d2]
/-- the model's three and two -/
theorem m_wrong (S : Ws) (hf1 : 1 ≤ f) (hf : f < 128) (ha : a < 65536) (hc : c ≤ 16) (hv : v < 2 ^ 64) : fMo_wrong (nI f) (nI a) (nI c) (lN v) S = some (nI (refN f a c v), S) := by
  have w0 : fMo_word (lN v) (0 : Int32) S = some (nI (wN v 0), S) := m_word S hv (k := 0) (by decide)
  have hwl := wN_lt v 0
  have i1 : fMo_within (nI c) (1 : Int32) (16 : Int32) S = some (if 1 ≤ c ∧ c ≤ 16 then 1 else 0, S) := m_within (lo := 1) (hi := 16) S (by omega) (by decide) (by decide)
  have i2 : fMo_within (nI c) (1 : Int32) (4 : Int32) S = some (if 1 ≤ c ∧ c ≤ 4 then 1 else 0, S) := m_within (lo := 1) (hi := 4) S (by omega) (by decide) (by decide)
  have ea : nI a + nI c = nI (a + c) := nI_add a c
  have hbits : (if nI f = (1 : Int32) then some (1 : Int32) else if nI f = (2 : Int32) then some (1 : Int32) else if nI f = (15 : Int32) then some (1 : Int32) else some (0 : Int32)) = some (if f = 1 ∨ f = 2 ∨ f = 15 then 1 else 0) := by
    simp (disch := omega) only [q_1, q_2, q_15]
    by_cases h1 : f = 1
    · rw [if_pos h1, if_pos (by omega)]
    · rw [if_neg h1]
      by_cases h2 : f = 2
      · rw [if_pos h2, if_pos (by omega)]
      · rw [if_neg h2]
        by_cases h3 : f = 15
        · rw [if_pos h3, if_pos (by omega)]
        · rw [if_neg h3, if_neg (by omega)]
  have hwords : (if nI f = (3 : Int32) then some (1 : Int32) else if nI f = (4 : Int32) then some (1 : Int32) else if nI f = (16 : Int32) then some (1 : Int32) else some (0 : Int32)) = some (if f = 3 ∨ f = 4 ∨ f = 16 then 1 else 0) := by
    simp (disch := omega) only [q_3, q_4, q_16]
    by_cases h1 : f = 3
    · rw [if_pos h1, if_pos (by omega)]
    · rw [if_neg h1]
      by_cases h2 : f = 4
      · rw [if_pos h2, if_pos (by omega)]
      · rw [if_neg h2]
        by_cases h3 : f = 16
        · rw [if_pos h3, if_pos (by omega)]
        · rw [if_neg h3, if_neg (by omega)]
  unfold fMo_wrong
  rw [bs w0]
  dsimp only
  rw [bs hbits, bs hwords]
  have J : ∀ i3 i8 : Int32, i3 = (if f = 1 ∨ f = 2 ∨ f = 15 then 1 else 0) → i8 = (if f = 3 ∨ f = 4 ∨ f = 16 then 1 else 0) → (f = 1 ∨ f = 2 ∨ f = 15 ∨ f = 3 ∨ f = 4 ∨ f = 16 ∨ f = 5 ∨ f = 6 ∨ f = 8 ∨ f = 22) → fMo_wrong_J88_7 i3 i8 (nI f) (nI (wN v 0)) (nI a) (nI c) S = some (nI (refN f a c v), S) := by
    intro i3 i8 h3 h8 hk
    rw [j88 S hwl hf ha hc h3 h8]
    unfold refN
    refine congrArg (fun z => some (z, S)) ?_
    (repeat' split)
    all_goals first | rfl | (exfalso; omega)
  by_cases k1 : f = 1 ∨ f = 2 ∨ f = 15
  · rw [if_pos k1, if_neg (by decide)]
    exact J _ _ (if_pos k1).symm rfl (by omega)
  · by_cases k2 : f = 3 ∨ f = 4 ∨ f = 16
    · rw [if_neg k1, if_pos k2, if_pos rfl, if_neg (by decide)]
      exact J _ _ (if_neg k1).symm (if_pos k2).symm (by omega)
    · rw [if_neg k1, if_neg k2, if_pos rfl, if_pos rfl]
      by_cases k3 : f = 5 ∨ f = 6 ∨ f = 8 ∨ f = 22
      · have j := J 0 0 (if_neg k1).symm (if_neg k2).symm (by omega)
        rw [j]
        simp (disch := omega) only [q_5, q_6, q_8, q_22]
        rcases k3 with rfl | rfl | rfl | rfl <;> simp
      · simp (disch := omega) only [q_5, q_6, q_8, q_22]
        rw [if_neg (by omega), if_neg (by omega), if_neg (by omega), if_neg (by omega)]
        unfold refN
        rw [if_neg k1, if_neg k2, if_neg (by omega), if_neg (by omega), if_neg (by omega)]
        rfl
end WM2
