section GM
variable {b : Nat} {X : Xs} {i u f a c v al ln d off ls : Nat} {tb : Nat → Nat → Nat}
theorem SlM.said {y : Int32} {z : Int64} (h : SlM X i al ln d off ls tb) : SlM ((X.sI 56 39 y).sJ 56 40 z) i al ln d off ls tb := by
  obtain ⟨e0, e1, e2, e3, e4, et⟩ := h
  refine ⟨?_, ?_, ?_, ?_, ?_, fun t' k' a1 a4 ak => ?_⟩
  all_goals rw [sJ_I, sI_I, up2_o (by omega)]
  all_goals first | assumption | exact et t' k' a1 a4 ak
theorem m_gets (hi : i < 6) (hV : SlV al ln d off ls tb) (hS : SlM X i al ln d off ls tb) (hf1 : 1 ≤ f) (hf : f < 128) (ha : a < 65536) (hc : c ≤ 16) (hv : v < 2 ^ 64) {all : Int32} (hall : all = if u = 0 then 1 else 0) : ∃ Y r, fMo_gets (b + 56) (nI (i + 1)) (nI f) (nI a) (nI c) (lN v) all (wX b X) = some (r, wX b Y) ∧ (answersQ u f a c v off ls ∧ r = 1 ∨ ¬ answersQ u f a c v off ls ∧ r = 0) ∧ ChS i X Y ∧ SlM Y i al ln d off (if hears f off ls ∧ refN f a c v = 0 then acL f a ls else ls) (if hears f off ls ∧ refN f a c v = 0 then acT f a c v tb else tb) ∧ (hears f off ls → Y.I 56 39 = nI (refN f a c v) ∧ (refN f a c v = 0 → Y.J 56 40 = lN (svN f a c v tb)) ∧ (refN f a c v ≠ 0 → Y.J 56 40 = lN 0)) := by
  obtain ⟨v1, v2, v3, v4, v5, v6⟩ := hV
  have hV : SlV al ln d off ls tb := ⟨v1, v2, v3, v4, v5, v6⟩
  have hrl := ref_lt f a c v
  have a61 : aI (wX b X) (b + 61) 1 (nI (i + 1)) = some (nI ls) := by rw [mo_a61, bs (ax_of (show i + 1 < 7 by omega) (by decide) rfl), hS.2.2.2.2.1]
  have a60 : aI (wX b X) (b + 60) 1 (nI (i + 1)) = some (nI off) := by rw [mo_a60, bs (ax_of (show i + 1 < 7 by omega) (by decide) rfl), hS.2.2.2.1]
  by_cases hh : hears f off ls
  · have hmid : ∃ Y, (if nI (refN f a c v) = 0 then (gO (wX b ((X.sI 56 39 (nI (refN f a c v))).sJ 56 40 0)) (b + 56) [8]).bind fun q16 => (fMo_act (b + 56) (nI (i + 1)) (nI f) (nI a) (nI c) (lN v) (wX b ((X.sI 56 39 (nI (refN f a c v))).sJ 56 40 0))).bind fun S15 => some S15 else some (wX b ((X.sI 56 39 (nI (refN f a c v))).sJ 56 40 0))) = some (wX b Y) ∧ ChS i X Y ∧ SlM Y i al ln d off (if hears f off ls ∧ refN f a c v = 0 then acL f a ls else ls) (if hears f off ls ∧ refN f a c v = 0 then acT f a c v tb else tb) ∧ (Y.I 56 39 = nI (refN f a c v) ∧ (refN f a c v = 0 → Y.J 56 40 = lN (svN f a c v tb)) ∧ (refN f a c v ≠ 0 → Y.J 56 40 = lN 0)) := by
      simp only [q_0 (show refN f a c v < 2 ^ 31 by omega)]
      by_cases hr : refN f a c v = 0
      · obtain ⟨Y, e1, e2, e3, e4, e5⟩ := m_act (b := b) hi hV (hS.said (y := nI (refN f a c v)) (z := 0)) hf1 hf ha hc hv hr
        refine ⟨Y, ?_, ChS.said.tr e5, ?_, ?_, fun _ => e3, fun q => absurd hr q⟩
        · rw [if_pos hr, bs mo_o, bs e1]
        · rw [if_pos ⟨hh, hr⟩, if_pos ⟨hh, hr⟩]
          exact e2
        · rw [e4, sJ_I, sI_I, up2_s]
      · refine ⟨(X.sI 56 39 (nI (refN f a c v))).sJ 56 40 0, by rw [if_neg hr], ChS.said, ?_, ?_, fun q => absurd q hr, fun _ => ?_⟩
        · rw [if_neg (fun q => hr q.2), if_neg (fun q => hr q.2)]
          exact hS.said
        · rw [sJ_I, sI_I, up2_s]
        · rw [sJ_J, up2_s]; rfl
    obtain ⟨Y, e1, e2, e3, e4⟩ := hmid
    have hL : (if hears f off ls ∧ refN f a c v = 0 then acL f a ls else ls) = (if refN f a c v = 0 then acL f a ls else ls) := by
      by_cases hr : refN f a c v = 0
      · rw [if_pos ⟨hh, hr⟩, if_pos hr]
      · rw [if_neg (fun q => hr q.2), if_neg hr]
    have hLl : (if refN f a c v = 0 then acL f a ls else ls) < 2 ^ 31 := by
      unfold acL
      repeat' split
      all_goals omega
    have a61' : aI (wX b Y) (b + 61) 1 (nI (i + 1)) = some (nI (if refN f a c v = 0 then acL f a ls else ls)) := by rw [mo_a61, bs (ax_of (show i + 1 < 7 by omega) (by decide) rfl), e3.2.2.2.2.1, hL]
    have g39 : gI (wX b ((X.sI 56 39 (nI (refN f a c v))).sJ 56 40 0)) (b + 56) [8] 39 = some (nI (refN f a c v)) := by rw [mo_i39, sJ_I, sI_I, up2_s]
    have hJ : fMo_gets_J30_1 (nI f) (nI a) (nI c) (lN v) (wX b X) (b + 56) (nI (i + 1)) all (nI ls) = some (if u ≠ 0 ∧ ls = 0 ∧ (if refN f a c v = 0 then acL f a ls else ls) = 0 then 1 else 0, wX b Y) := by
      unfold fMo_gets_J30_1
      rw [bs (m_wrong _ hf1 hf ha hc hv)]
      dsimp only
      rw [bs mo_p39, bs mo_p40, bs g39, bs e1, hall]
      by_cases k0 : u = 0
      · rw [if_pos k0, if_neg (by decide), bs bz_0, if_neg (by omega)]
      · rw [if_neg k0, if_pos rfl]
        by_cases k1 : ls = 0
        · rw [if_pos (by rw [q_0 (by omega)]; exact k1), bs mo_r5, Option.bind_some, bs a61']
          by_cases k2 : (if refN f a c v = 0 then acL f a ls else ls) = 0
          · rw [if_pos (by rw [q_0 hLl]; exact k2), bs bz_1]
            have : u ≠ 0 ∧ ls = 0 ∧ (if refN f a c v = 0 then acL f a ls else ls) = 0 := ⟨k0, k1, k2⟩
            rw [if_pos this]
          · rw [if_neg (by rw [q_0 hLl]; exact k2), bs bz_0]
            have : ¬ (u ≠ 0 ∧ ls = 0 ∧ (if refN f a c v = 0 then acL f a ls else ls) = 0) := fun q => k2 q.2.2
            rw [if_neg this]
        · rw [if_neg (by rw [q_0 (by omega)]; exact k1), bs bz_0]
          have : ¬ (u ≠ 0 ∧ ls = 0 ∧ (if refN f a c v = 0 then acL f a ls else ls) = 0) := fun q => k1 q.2.1
          rw [if_neg this]
    refine ⟨Y, (if u ≠ 0 ∧ ls = 0 ∧ (if refN f a c v = 0 then acL f a ls else ls) = 0 then 1 else 0), ?_, ?_, e2, e3, fun _ => e4⟩
    · unfold fMo_gets
      rw [bs mo_r5, Option.bind_some, bs a61, bs mo_r4, Option.bind_some, bs a60, if_pos (by rw [q_0 (by omega)]; exact hh.1)]
      by_cases k1 : ls = 0
      · rw [if_pos (by rw [q_0 (by omega)]; exact k1), hJ]
      · have k8 : f = 8 := by have := hh.2; omega
        rw [if_neg (by rw [q_0 (by omega)]; exact k1), if_pos (by rw [q_8 (by omega)]; exact k8), hJ]
    · by_cases q : u ≠ 0 ∧ ls = 0 ∧ (if refN f a c v = 0 then acL f a ls else ls) = 0
      · exact Or.inl ⟨⟨hh, q⟩, if_pos q⟩
      · exact Or.inr ⟨fun z => q z.2, if_neg q⟩
  · refine ⟨X, 0, ?_, Or.inr ⟨fun z => hh z.1, rfl⟩, ChS.rf, ?_, fun q => absurd q hh⟩
    · unfold fMo_gets
      rw [bs mo_r5, Option.bind_some, bs a61, bs mo_r4, Option.bind_some, bs a60]
      by_cases k0 : off = 0
      · have hn : ¬ (ls = 0 ∨ f = 8) := fun z => hh ⟨k0, z⟩
        rw [if_pos (by rw [q_0 (by omega)]; exact k0), if_neg (by rw [q_0 (by omega)]; omega), if_neg (by rw [q_8 (by omega)]; omega), bs bz_0]
      · rw [if_neg (by rw [q_0 (by omega)]; exact k0), bs bz_0]
    · rw [if_neg (fun q => hh q.1), if_neg (fun q => hh q.1)]
      exact hS
theorem m_writeAnswer {j r sv : Nat} (hj : j < 2) (hu : u < 248) (hf1 : 1 ≤ f) (hf : f < 128) (ha : a < 65536) (hc : c ≤ 16) (hv : v < 2 ^ 64) (hsv : sv < 2 ^ 64) (hr : r = refN f a c v) (h39 : X.I 56 39 = nI r) (h40 : X.J 56 40 = lN sv) : ∃ Y, fMo_writeAnswer (b + 56) (nI j) (nI u) (nI f) (nI a) (nI c) (lN v) (wX b X) = some (wX b Y) ∧ FrM Y (j + 2) (ansL u f a c v r sv) ∧ ChM (j + 2) X Y := by
  have hrl := ref_lt f a c v
  have hw : j + 2 < 4 := by omega
  have ew : nI j + (2 : Int32) = nI (j + 2) := nI_add j 2
  have g39 : gI (wX b X) (b + 56) [8] 39 = some (nI r) := by rw [mo_i39, h39]
  have hB2 : B8 [nI u, nI f] := B8.cons (B8_nI (by omega)) (B8.cons (B8_nI (by omega)) B8.nil)
  have hla : Lt 65536 (nI a) := ⟨a, ha, rfl⟩
  have hlc : Lt 65536 (nI c) := ⟨c, by omega, rfl⟩
  by_cases hr0 : r = 0
  · have hle : nI r ≤ 0 := by rw [hr0]; decide
    by_cases k1 : f = 1 ∨ f = 2
    · obtain ⟨Y, e1, f1, c1⟩ := s_beginM (b := b) (X := X) hw (u := nI u) (f := nI f)
      have g40 : gL (wX b Y) (b + 56) [8] 40 = some (lN sv) := by rw [mo_i40, (c1.1.2.2 56 (by simp)).2.2, h40]
      obtain ⟨Y2, e2, f2, c2⟩ := m_addBits (b := b) hw hsv hc f1 (by simp; omega)
      obtain ⟨Y3, e3, f3, c3⟩ := s_sumM (b := b) hw f2 (by simp [bits_len]; omega) (hB2.app (bits_B8 sv hc))
      have hJ : fMo_writeAnswer_J53_1 (b + 56) (nI j) (nI u) (nI f) (nI c) (wX b X) = some (wX b Y3) := by
        unfold fMo_writeAnswer_J53_1
        rw [ew, bs mo_o, bs e1, bs g40, bs mo_o, bs e2, bs mo_o, bs e3]
      refine ⟨Y3, ?_, ?_, (c1.tr c2).tr c3⟩
      · unfold fMo_writeAnswer
        rw [bs g39, if_pos hle]
        rcases k1 with rfl | rfl
        · rw [if_pos (by decide), hJ]
        · rw [if_neg (by decide), if_pos (by decide), hJ]
      · unfold ansL
        rw [if_neg (fun q => q hr0), if_pos k1]
        exact f3
    · by_cases k2 : f = 3 ∨ f = 4
      · obtain ⟨Y, e1, f1, c1⟩ := s_beginM (b := b) (X := X) hw (u := nI u) (f := nI f)
        have g40 : gL (wX b Y) (b + 56) [8] 40 = some (lN sv) := by rw [mo_i40, (c1.1.2.2 56 (by simp)).2.2, h40]
        have hc4 : c ≤ 4 := by
          have := ref0 (hr.symm.trans hr0)
          omega
        obtain ⟨Y2, e2, f2, c2⟩ := m_addWords (b := b) hw hsv hc f1 (by simp; omega)
        obtain ⟨Y3, e3, f3, c3⟩ := s_sumM (b := b) hw f2 (by rw [List.length_append, words_len]; simp; omega) (hB2.app (words_B8 sv hc))
        have hJ : fMo_writeAnswer_J92_2 (b + 56) (nI j) (nI u) (nI f) (nI c) (wX b X) = some (wX b Y3) := by
          unfold fMo_writeAnswer_J92_2
          rw [ew, bs mo_o, bs e1, bs g40, bs mo_o, bs e2, bs mo_o, bs e3]
        refine ⟨Y3, ?_, ?_, (c1.tr c2).tr c3⟩
        · unfold fMo_writeAnswer
          rw [bs g39, if_pos hle]
          rcases k2 with rfl | rfl
          · rw [if_neg (by decide), if_neg (by decide), if_pos (by decide), hJ]
          · rw [if_neg (by decide), if_neg (by decide), if_neg (by decide), if_pos (by decide), hJ]
        · unfold ansL
          rw [if_neg (fun q => q hr0), if_neg k1, if_pos k2]
          exact f3
      · by_cases k3 : f = 15 ∨ f = 16
        · obtain ⟨Y, e1, f1, c1⟩ := s_beginM (b := b) (X := X) hw (u := nI u) (f := nI f)
          obtain ⟨Y2, e2, f2, c2⟩ := s_addW (b := b) hw f1 (by simp) hla
          obtain ⟨Y3, e3, f3, c3⟩ := s_addW (b := b) hw f2 (by simp [wd_len]) hlc
          obtain ⟨Y4, e4, f4, c4⟩ := s_sumM (b := b) hw f3 (by simp [wd_len]) ((hB2.app (B8_wd _)).app (B8_wd _))
          have hJ : fMo_writeAnswer_J133_3 (b + 56) (nI j) (nI u) (nI f) (nI a) (nI c) (wX b X) = some (wX b Y4) := by
            unfold fMo_writeAnswer_J133_3
            rw [ew, bs mo_o, bs e1, bs mo_o, bs e2, bs mo_o, bs e3, bs mo_o, bs e4]
          refine ⟨Y4, ?_, ?_, ((c1.tr c2).tr c3).tr c4⟩
          · unfold fMo_writeAnswer
            rw [bs g39, if_pos hle]
            rcases k3 with rfl | rfl
            · rw [if_neg (by decide), if_neg (by decide), if_neg (by decide), if_neg (by decide), if_pos (by decide), hJ]
            · rw [if_neg (by decide), if_neg (by decide), if_neg (by decide), if_neg (by decide), if_neg (by decide), if_pos (by decide), hJ]
          · unfold ansL
            rw [if_neg (fun q => q hr0), if_neg k1, if_neg k2, if_pos k3, ← List.append_assoc]
            exact f4
        · obtain ⟨Y, e1, f1, c1⟩ := m_writeRequest (b := b) (X := X) hw hu hf1 hf ha hc hv
          refine ⟨Y, ?_, ?_, c1⟩
          · unfold fMo_writeAnswer
            rw [bs g39, if_pos hle, if_neg (by rw [q_1 (by omega)]; omega), if_neg (by rw [q_2 (by omega)]; omega), if_neg (by rw [q_3 (by omega)]; omega), if_neg (by rw [q_4 (by omega)]; omega), if_neg (by rw [q_15 (by omega)]; omega), if_neg (by rw [q_16 (by omega)]; omega), ew, bs mo_o, bs e1]
          · unfold ansL
            rw [if_neg (fun q => q hr0), if_neg k1, if_neg k2, if_neg k3]
            exact f1
  · obtain ⟨Y, e1, f1, c1⟩ := s_beginM (b := b) (X := X) hw (u := nI u) (f := nI (f + 128))
    have g39' : gI (wX b Y) (b + 56) [8] 39 = some (nI r) := by rw [mo_i39, (c1.1.2.2 56 (by simp)).1, h39]
    obtain ⟨Y2, e2, f2, c2⟩ := s_add (b := b) hw f1 (by simp) (nI r)
    obtain ⟨Y3, e3, f3, c3⟩ := s_sumM (b := b) hw f2 (by simp) (B8.cons (B8_nI (by omega)) (B8.cons (B8_nI (by omega)) (B8.cons (B8_nI (by omega)) B8.nil)))
    have e0 : nI f + (128 : Int32) = nI (f + 128) := nI_add f 128
    refine ⟨Y3, ?_, ?_, (c1.tr c2).tr c3⟩
    · unfold fMo_writeAnswer
      rw [bs g39, if_neg (nI_nle (by omega) (by omega)), ew, bs mo_o, e0, bs e1, bs g39', bs mo_o, bs e2, bs mo_o, bs e3]
    · unfold ansL
      rw [if_pos hr0]
      exact f3
end GM
