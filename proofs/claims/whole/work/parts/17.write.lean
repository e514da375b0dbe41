/-! What is wrong with a job; a request's frame on both sides. -/
def refN (f a c v : Nat) : Nat :=
  if f = 1 ∨ f = 2 ∨ f = 15 then (if c < 1 then 3 else if 16 < c then 3 else if 16 < a + c then 2 else 0)
  else if f = 3 ∨ f = 4 ∨ f = 16 then (if c < 1 then 3 else if 4 < c then 3 else if 8 < a + c then 2 else 0)
  else if f = 5 then (if wN v 0 = 0 ∨ wN v 0 = 65280 then (if 16 ≤ a then 2 else 0) else 3)
  else if f = 6 ∨ f = 22 then (if 8 ≤ a then 2 else 0)
  else if f = 8 then (if a = 0 ∨ a = 1 ∨ a = 4 then 0 else 3)
  else 1
section WR
variable {b : Nat} {X : Xs} {o p u f a c v : Nat} {L : List Int32}
theorem s_span (h : JobN X o u f a c v) {m n : Nat} (hm : m ≤ 16) (hn : n ≤ 16) : fJo_spanRefusal (b + o) (nI m) (nI n) (wX b X) = some (nI (if c < 1 then 3 else if m < c then 3 else if n < a + c then 2 else 0), wX b X) := by
  obtain ⟨hj, ⟨e1, e2, e3, e4, e5⟩, hu, hf1, hf, ha, hc, hv⟩ := h
  have h1 : (nI c ≤ nI m) = (c ≤ m) := propext (nI_leI (by omega) (by omega))
  have h2 : (nI n < nI (a + c)) = (n < a + c) := propext (nI_ltI (by omega) (by omega))
  unfold fJo_spanRefusal
  simp (disch := omega) only [jo_i4 hj, jo_i3 hj, e3, e4, Option.bind_some, l_1, h1, nI_add, h2]
  by_cases c1 : c < 1
  · simp only [if_pos c1]; rfl
  · simp only [if_neg c1]
    by_cases c2 : c ≤ m
    · have c3 : ¬ m < c := by omega
      simp only [if_pos c2, if_neg c3]
      split <;> rfl
    · have c3 : m < c := by omega
      simp only [if_neg c2, if_pos c3]; rfl
theorem s_kind (h : JobN X o u f a c v) : fJo_isKnownKind (b + o) (wX b X) = some (if a = 0 ∨ a = 1 ∨ a = 4 then 1 else 0, wX b X) := by
  obtain ⟨hj, ⟨e1, e2, e3, e4, e5⟩, hu, hf1, hf, ha, hc, hv⟩ := h
  unfold fJo_isKnownKind
  simp (disch := omega) only [jo_i3 hj, e3, Option.bind_some, q_0, q_1, q_4, bz_0, bz_1]
  by_cases c1 : a = 0
  · simp [c1]
  · by_cases c2 : a = 1
    · simp [c2]
    · by_cases c3 : a = 4
      · simp [c3]
      · simp [c1, c2, c3]
theorem s_refusal (h : JobN X o u f a c v) : fJo_refusal (b + o) (wX b X) = some (nI (refN f a c v), wX b X) := by
  have hs1 := s_span (b := b) h (m := 16) (n := 16) (by omega) (by omega)
  have hs2 := s_span (b := b) h (m := 4) (n := 8) (by omega) (by omega)
  have hk := s_kind (b := b) h
  have hw := s_word (b := b) h (k := 0) (by decide)
  rw [nI_0] at hw
  obtain ⟨qj, gj, -⟩ := jo_o (b := b) h.1
  have hwl := wN_lt v 0
  obtain ⟨hj, ⟨e1, e2, e3, e4, e5⟩, hu, hf1, hf, ha, hc, hv⟩ := h
  have hs1 : fJo_spanRefusal (b + o) (16 : Int32) (16 : Int32) (wX b X) = _ := hs1
  have hs2 : fJo_spanRefusal (b + o) (4 : Int32) (8 : Int32) (wX b X) = _ := hs2
  unfold fJo_refusal refN
  simp (disch := omega) only [jo_i2 hj, jo_i3 hj, e2, e3, gj, hs1, hs2, hk, hw, Option.bind_some, q_0, q_1, q_2, q_3, q_4, q_5, q_6, q_7, q_8, q_9, q_10, q_11, q_12, q_13, q_14, q_15, q_16, q_17, q_18, q_19, q_20, q_21, q_22, q_65280, ge_16, ge_8]
  by_cases c1 : f = 1 ∨ f = 2 ∨ f = 15
  · simp only [if_pos c1]
  · simp only [if_neg c1]
    by_cases c2 : f = 3 ∨ f = 4 ∨ f = 16
    · simp only [if_pos c2]
    · simp only [if_neg c2]
      by_cases c3 : f = 5
      · simp only [if_pos c3]
        by_cases d1 : wN v 0 = 0
        · simp only [d1, if_pos, true_or]
          by_cases d2 : 16 ≤ a
          · simp only [if_pos d2]; rfl
          · simp only [if_neg d2]; rfl
        · by_cases d3 : wN v 0 = 65280
          · simp only [d3, if_true, or_true, if_neg (show ¬ (65280 : Nat) = 0 by decide)]
            by_cases d2 : 16 ≤ a
            · simp only [if_pos d2]; rfl
            · simp only [if_neg d2]; rfl
          · have d4 : ¬ (wN v 0 = 0 ∨ wN v 0 = 65280) := by omega
            simp only [if_neg d1, if_neg d3, if_neg d4]; rfl
      · simp only [if_neg c3]
        by_cases c4 : f = 6 ∨ f = 22
        · simp only [if_pos c4]
          by_cases d2 : 8 ≤ a
          · simp only [if_pos d2]; rfl
          · simp only [if_neg d2]; rfl
        · simp only [if_neg c4]
          by_cases c5 : f = 8
          · subst c5
            by_cases d1 : a = 0 ∨ a = 1 ∨ a = 4
            · simp [d1, nI_0]
            · simp [d1]; rfl
          · simp only [if_neg c5]
            split <;> rfl
theorem s_addSumd (hF : isFr o) (hL : FrL X o L) (hl : L.length + 2 ≤ 41) : ∃ Y, fFr_addSum (b + o) (wX b X) = some (wX b Y) ∧ FrL Y o (sumd L) ∧ Ch [o, o + 1] X Y := by
  obtain ⟨Y, h1, h2, h3⟩ := s_addSum (b := b) hF hL hl
  refine ⟨Y, h1, ?_, h3⟩
  unfold sumd
  exact h2
theorem s_addWd (hF : isFr o) (hL : FrL X o L) (hl : L.length + 2 ≤ 41) (v : Int32) : ∃ Y, fFr_addWord (b + o) v (wX b X) = some (wX b Y) ∧ FrL Y o (L ++ wd v) ∧ Ch [o, o + 1] X Y := by
  obtain ⟨Y, h1, h2, h3⟩ := s_addWord (b := b) hF hL hl v
  refine ⟨Y, h1, ?_, h3⟩
  unfold wd
  exact h2
theorem reqL_eq : reqL u f a c v = sumd ([nI u, nI f] ++ bodyL f a c v) := by unfold reqL; rfl
theorem s_writeTo (h : JobN X o u f a c v) (hF : isFr p) : ∃ Y, fJo_writeTo (b + o) (b + p) (wX b X) = some (wX b Y) ∧ FrL Y p (reqL u f a c v) ∧ Ch [p, p + 1] X Y := by
  have hnp := jo_fr h.1 hF
  have hu := h.2.2.1
  have hf1 := h.2.2.2.1
  have hf := h.2.2.2.2.1
  have ha := h.2.2.2.2.2.1
  have hc := h.2.2.2.2.2.2.1
  obtain ⟨Y, e1, f1, c1⟩ := s_begin (b := b) (X := X) hF (nI u) (nI f)
  rw [b8_id (B8_nI (by omega)), b8_id (B8_nI (by omega))] at f1
  have h1 := h.ch c1 hnp
  obtain ⟨qp, gp⟩ := Fr_o (b := b) (X := X) hF
  obtain ⟨qp1, gp1⟩ := Fr_o (b := b) (X := Y) hF
  obtain ⟨qj1, gj1, -⟩ := jo_o (b := b) h1.1
  have hbl := body_len f a v hc
  obtain ⟨Y2, e2, f2, c2⟩ := s_addWd (b := b) hF f1 (by simp) (nI a)
  have h2 := h1.ch c2 hnp
  obtain ⟨qp2, gp2⟩ := Fr_o (b := b) (X := Y2) hF
  obtain ⟨qj2, gj2, -⟩ := jo_o (b := b) h2.1
  obtain ⟨Y3, e3, f3, c3⟩ := s_addWd (b := b) hF f2 (by simp [wd_len]) (nI c)
  have h3 := h2.ch c3 hnp
  obtain ⟨qp3, gp3⟩ := Fr_o (b := b) (X := Y3) hF
  obtain ⟨qj3, gj3, -⟩ := jo_o (b := b) h3.1
  obtain ⟨Y4, e4, f4, c4⟩ := s_addWd (b := b) hF f2 (by simp [wd_len]) (nI (wN v 0))
  have h4 := h2.ch c4 hnp
  obtain ⟨qp4, gp4⟩ := Fr_o (b := b) (X := Y4) hF
  obtain ⟨qj4, gj4, -⟩ := jo_o (b := b) h4.1
  obtain ⟨Y5, e5, f5, c5⟩ := s_addWd (b := b) hF f4 (by simp [wd_len]) (nI (wN v 1))
  obtain ⟨qp5, gp5⟩ := Fr_o (b := b) (X := Y5) hF
  have w0 := s_word (b := b) h2 (k := 0) (by decide)
  rw [nI_0] at w0
  have w1 := s_word (b := b) h4 (k := 1) (by decide)
  rw [show nI 1 = (1 : Int32) from rfl] at w1
  have hm := reqL_eq (u := u) (f := f) (a := a) (c := c) (v := v)
  have fin : ∀ (Z : Xs), FrL Z p ([nI u, nI f] ++ bodyL f a c v) → Ch [p, p + 1] X Z → ∃ Z', fFr_addSum (b + p) (wX b Z) = some (wX b Z') ∧ FrL Z' p (reqL u f a c v) ∧ Ch [p, p + 1] X Z' := by
    intro Z hz cz
    obtain ⟨Z', a1, a2, a3⟩ := s_addSumd (b := b) hF hz (by simp; omega)
    refine ⟨Z', a1, ?_, cz.tr a3⟩
    rw [hm]
    exact a2
  by_cases k1 : f = 1 ∨ f = 2 ∨ f = 3 ∨ f = 4
  · have hb : bodyL f a c v = wd (nI a) ++ wd (nI c) := by unfold bodyL; rw [if_pos k1]
    obtain ⟨Z, a1, a2, a3⟩ := fin Y3 (by rw [hb]; simpa only [List.append_assoc] using f3) ((c1.tr c2).tr c3)
    refine ⟨Z, ?_, a2, a3⟩
    unfold fJo_writeTo
    rw [bs h.g1, bs h.g2, bs gp, bs e1, bs h1.g2]
    rw [if_pos (by simp (disch := omega) only [q_1, q_2, q_3, q_4, q_5, q_6, q_7, q_8, q_9, q_10, q_11, q_12, q_13, q_14, q_15, q_16, q_17, q_18, q_19, q_20, q_21, q_22]; omega), bs h1.g3, bs gp1, bs e2, bs h2.g4, bs gp2, bs e3, Option.bind_some, bs gp3, bs a1]
  · by_cases k2 : f = 5 ∨ f = 6 ∨ f = 8
    · have hb : bodyL f a c v = wd (nI a) ++ wd (nI (wN v 0)) := by unfold bodyL; rw [if_neg k1, if_pos k2]
      obtain ⟨Z, a1, a2, a3⟩ := fin Y4 (by rw [hb]; simpa only [List.append_assoc] using f4) ((c1.tr c2).tr c4)
      refine ⟨Z, ?_, a2, a3⟩
      unfold fJo_writeTo
      rw [bs h.g1, bs h.g2, bs gp, bs e1, bs h1.g2]
      rw [if_neg (by simp (disch := omega) only [q_1, q_2, q_3, q_4, q_5, q_6, q_7, q_8, q_9, q_10, q_11, q_12, q_13, q_14, q_15, q_16, q_17, q_18, q_19, q_20, q_21, q_22]; omega), if_pos (by simp (disch := omega) only [q_1, q_2, q_3, q_4, q_5, q_6, q_7, q_8, q_9, q_10, q_11, q_12, q_13, q_14, q_15, q_16, q_17, q_18, q_19, q_20, q_21, q_22]; omega), bs h1.g3, bs gp1, bs e2, bs gj2, bs w0]
      dsimp only
      rw [bs gp2, bs e4, Option.bind_some, bs gp4, bs a1]
    · by_cases k3 : f = 22
      · have hb : bodyL f a c v = wd (nI a) ++ wd (nI (wN v 0)) ++ wd (nI (wN v 1)) := by unfold bodyL; rw [if_neg k1, if_neg k2, if_pos k3]
        obtain ⟨Z, a1, a2, a3⟩ := fin Y5 (by rw [hb]; simpa only [List.append_assoc] using f5) (((c1.tr c2).tr c4).tr c5)
        refine ⟨Z, ?_, a2, a3⟩
        unfold fJo_writeTo
        rw [bs h.g1, bs h.g2, bs gp, bs e1, bs h1.g2]
        have n1 : ¬ (f = 7 ∨ f = 9 ∨ f = 10 ∨ f = 11 ∨ f = 12 ∨ f = 13 ∨ f = 14 ∨ f = 17 ∨ f = 18 ∨ f = 19 ∨ f = 20 ∨ f = 21) := by omega
        have n2 : ¬ f = 15 := by omega
        have n3 : ¬ f = 16 := by omega
        rw [if_neg (by simp (disch := omega) only [q_1, q_2, q_3, q_4, q_5, q_6, q_7, q_8, q_9, q_10, q_11, q_12, q_13, q_14, q_15, q_16, q_17, q_18, q_19, q_20, q_21, q_22]; omega), if_neg (by simp (disch := omega) only [q_1, q_2, q_3, q_4, q_5, q_6, q_7, q_8, q_9, q_10, q_11, q_12, q_13, q_14, q_15, q_16, q_17, q_18, q_19, q_20, q_21, q_22]; omega), if_neg (by simp (disch := omega) only [q_1, q_2, q_3, q_4, q_5, q_6, q_7, q_8, q_9, q_10, q_11, q_12, q_13, q_14, q_15, q_16, q_17, q_18, q_19, q_20, q_21, q_22]; omega), if_neg (by simp (disch := omega) only [q_1, q_2, q_3, q_4, q_5, q_6, q_7, q_8, q_9, q_10, q_11, q_12, q_13, q_14, q_15, q_16, q_17, q_18, q_19, q_20, q_21, q_22]; omega), if_neg (by simp (disch := omega) only [q_1, q_2, q_3, q_4, q_5, q_6, q_7, q_8, q_9, q_10, q_11, q_12, q_13, q_14, q_15, q_16, q_17, q_18, q_19, q_20, q_21, q_22]; omega), if_pos (by simp (disch := omega) only [q_1, q_2, q_3, q_4, q_5, q_6, q_7, q_8, q_9, q_10, q_11, q_12, q_13, q_14, q_15, q_16, q_17, q_18, q_19, q_20, q_21, q_22]; omega), bs h1.g3, bs gp1, bs e2, bs gj2, bs w0]
        dsimp only
        rw [bs gp2, bs e4, bs gj4, bs w1]
        dsimp only
        rw [bs gp4, bs e5, Option.bind_some, bs gp5, bs a1]
      · by_cases k4 : f = 15
        · have hb : bodyL f a c v = wd (nI a) ++ wd (nI c) ++ bitsL v c := by unfold bodyL; rw [if_neg k1, if_neg k2, if_neg k3, if_pos k4]
          obtain ⟨Y6, e6, f6, c6⟩ := s_addBits (b := b) h3 hF f3 (by simp [wd_len]; omega)
          obtain ⟨qp6, gp6⟩ := Fr_o (b := b) (X := Y6) hF
          obtain ⟨Z, a1, a2, a3⟩ := fin Y6 (by rw [hb]; simpa only [List.append_assoc] using f6) (((c1.tr c2).tr c3).tr c6)
          refine ⟨Z, ?_, a2, a3⟩
          unfold fJo_writeTo
          rw [bs h.g1, bs h.g2, bs gp, bs e1, bs h1.g2]
          have n1 : ¬ (f = 7 ∨ f = 9 ∨ f = 10 ∨ f = 11 ∨ f = 12 ∨ f = 13 ∨ f = 14 ∨ f = 17 ∨ f = 18 ∨ f = 19 ∨ f = 20 ∨ f = 21) := by omega
          rw [if_neg (by simp (disch := omega) only [q_1, q_2, q_3, q_4, q_5, q_6, q_7, q_8, q_9, q_10, q_11, q_12, q_13, q_14, q_15, q_16, q_17, q_18, q_19, q_20, q_21, q_22]; omega), if_neg (by simp (disch := omega) only [q_1, q_2, q_3, q_4, q_5, q_6, q_7, q_8, q_9, q_10, q_11, q_12, q_13, q_14, q_15, q_16, q_17, q_18, q_19, q_20, q_21, q_22]; omega), if_neg (by simp (disch := omega) only [q_1, q_2, q_3, q_4, q_5, q_6, q_7, q_8, q_9, q_10, q_11, q_12, q_13, q_14, q_15, q_16, q_17, q_18, q_19, q_20, q_21, q_22]; omega), if_pos (by simp (disch := omega) only [q_1, q_2, q_3, q_4, q_5, q_6, q_7, q_8, q_9, q_10, q_11, q_12, q_13, q_14, q_15, q_16, q_17, q_18, q_19, q_20, q_21, q_22]; omega), bs h1.g3, bs gp1, bs e2, bs h2.g4, bs gp2, bs e3, bs gj3, bs e6, Option.bind_some, bs gp6, bs a1]
        · by_cases k5 : f = 16
          · have hb : bodyL f a c v = wd (nI a) ++ wd (nI c) ++ wordsL v c := by unfold bodyL; rw [if_neg k1, if_neg k2, if_neg k3, if_neg k4, if_pos k5]
            obtain ⟨Y6, e6, f6, c6⟩ := s_addWords (b := b) h3 hF f3 (by simp [wd_len]; omega)
            obtain ⟨qp6, gp6⟩ := Fr_o (b := b) (X := Y6) hF
            obtain ⟨Z, a1, a2, a3⟩ := fin Y6 (by rw [hb]; simpa only [List.append_assoc] using f6) (((c1.tr c2).tr c3).tr c6)
            refine ⟨Z, ?_, a2, a3⟩
            unfold fJo_writeTo
            rw [bs h.g1, bs h.g2, bs gp, bs e1, bs h1.g2]
            have n1 : ¬ (f = 7 ∨ f = 9 ∨ f = 10 ∨ f = 11 ∨ f = 12 ∨ f = 13 ∨ f = 14 ∨ f = 17 ∨ f = 18 ∨ f = 19 ∨ f = 20 ∨ f = 21) := by omega
            rw [if_neg (by simp (disch := omega) only [q_1, q_2, q_3, q_4, q_5, q_6, q_7, q_8, q_9, q_10, q_11, q_12, q_13, q_14, q_15, q_16, q_17, q_18, q_19, q_20, q_21, q_22]; omega), if_neg (by simp (disch := omega) only [q_1, q_2, q_3, q_4, q_5, q_6, q_7, q_8, q_9, q_10, q_11, q_12, q_13, q_14, q_15, q_16, q_17, q_18, q_19, q_20, q_21, q_22]; omega), if_neg (by simp (disch := omega) only [q_1, q_2, q_3, q_4, q_5, q_6, q_7, q_8, q_9, q_10, q_11, q_12, q_13, q_14, q_15, q_16, q_17, q_18, q_19, q_20, q_21, q_22]; omega), if_neg (by simp (disch := omega) only [q_1, q_2, q_3, q_4, q_5, q_6, q_7, q_8, q_9, q_10, q_11, q_12, q_13, q_14, q_15, q_16, q_17, q_18, q_19, q_20, q_21, q_22]; omega), if_pos (by simp (disch := omega) only [q_1, q_2, q_3, q_4, q_5, q_6, q_7, q_8, q_9, q_10, q_11, q_12, q_13, q_14, q_15, q_16, q_17, q_18, q_19, q_20, q_21, q_22]; omega), bs h1.g3, bs gp1, bs e2, bs h2.g4, bs gp2, bs e3, bs gj3, bs e6, Option.bind_some, bs gp6, bs a1]
          · have hb : bodyL f a c v = [] := by unfold bodyL; rw [if_neg k1, if_neg k2, if_neg k3, if_neg k4, if_neg k5]
            obtain ⟨Z, a1, a2, a3⟩ := fin Y (by rw [hb, List.append_nil]; exact f1) c1
            refine ⟨Z, ?_, a2, a3⟩
            unfold fJo_writeTo
            rw [bs h.g1, bs h.g2, bs gp, bs e1, bs h1.g2]
            rw [if_neg (by simp (disch := omega) only [q_1, q_2, q_3, q_4, q_5, q_6, q_7, q_8, q_9, q_10, q_11, q_12, q_13, q_14, q_15, q_16, q_17, q_18, q_19, q_20, q_21, q_22]; omega), if_neg (by simp (disch := omega) only [q_1, q_2, q_3, q_4, q_5, q_6, q_7, q_8, q_9, q_10, q_11, q_12, q_13, q_14, q_15, q_16, q_17, q_18, q_19, q_20, q_21, q_22]; omega)]
            by_cases k6 : nI f = 7 ∨ nI f = 9 ∨ nI f = 10 ∨ nI f = 11 ∨ nI f = 12 ∨ nI f = 13 ∨ nI f = 14 ∨ nI f = 17 ∨ nI f = 18 ∨ nI f = 19 ∨ nI f = 20 ∨ nI f = 21
            · rw [if_pos k6, Option.bind_some, bs gp1, bs a1]
            · rw [if_neg k6, if_neg (by simp (disch := omega) only [q_1, q_2, q_3, q_4, q_5, q_6, q_7, q_8, q_9, q_10, q_11, q_12, q_13, q_14, q_15, q_16, q_17, q_18, q_19, q_20, q_21, q_22]; omega), if_neg (by simp (disch := omega) only [q_1, q_2, q_3, q_4, q_5, q_6, q_7, q_8, q_9, q_10, q_11, q_12, q_13, q_14, q_15, q_16, q_17, q_18, q_19, q_20, q_21, q_22]; omega), if_neg (by simp (disch := omega) only [q_1, q_2, q_3, q_4, q_5, q_6, q_7, q_8, q_9, q_10, q_11, q_12, q_13, q_14, q_15, q_16, q_17, q_18, q_19, q_20, q_21, q_22]; omega), Option.bind_some, bs gp1, bs a1]
end WR
