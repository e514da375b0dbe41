section OB2
variable {b : Nat} {X : Xs} {i o u f a c v al ln d off ls : Nat} {tb : Nat → Nat → Nat}
/-- has the slave heard the job: it is on, and speaks or is asked for its mode -/
abbrev hears (f off ls : Nat) : Prop := off = 0 ∧ (ls = 0 ∨ f = 8)
abbrev answersQ (u f a c v off ls : Nat) : Prop := hears f off ls ∧ u ≠ 0 ∧ ls = 0 ∧ (if refN f a c v = 0 then acL f a ls else ls) = 0
theorem c_meant (hi : i < 6) (hS : SlC X i al ln d off ls tb) (h : JobN X o u f a c v) : fSl_isMeantBy (b + (2 + 5 * i)) (b + o) (wX b X) = some (if u = 0 ∨ u = i + 1 then 1 else 0, wX b X) := by
  have hp := isSl_of hi
  have hu := h.2.2.1
  obtain ⟨qj, gj, -⟩ := jo_o (b := b) h.1
  unfold fSl_isMeantBy
  rw [bs gj, bs (s_isB h)]
  dsimp only
  simp only [z01]
  by_cases e : u = 0
  · rw [if_neg (fun q => q e), bs bz_1, if_pos (Or.inl e)]
  · rw [if_pos e, bs h.g1, Sl_i0 hp, hS.1, Option.bind_some, bz_0, bz_1]
    have q : (nI u = nI (i + 1)) = (u = i + 1) := propext (nI_eq (by omega) (by omega))
    simp only [q, Option.bind_some]
    by_cases q2 : u = i + 1
    · rw [if_pos q2, if_pos (Or.inr q2)]
    · rw [if_neg q2, if_neg (by omega)]
theorem c_obey (hi : i < 6) (hV : SlV al ln d off ls tb) (hS : SlC X i al ln d off ls tb) (h : JobN X o u f a c v) : ∃ Y r, fSl_obey (b + (2 + 5 * i)) (b + o) (wX b X) = some (r, wX b Y) ∧ (answersQ u f a c v off ls ∧ r = 1 ∨ ¬ answersQ u f a c v off ls ∧ r = 0) ∧ Ch [2 + 5 * i, 2 + 5 * i + 1, 2 + 5 * i + 3] X Y ∧ SlC Y i al ln d off (if hears f off ls ∧ refN f a c v = 0 then acL f a ls else ls) (if hears f off ls ∧ refN f a c v = 0 then acT f a c v tb else tb) := by
  have hp := isSl_of hi
  have hf := h.2.2.2.2.1
  have hu := h.2.2.1
  obtain ⟨v1, v2, v3, v4, v5, v6⟩ := hV
  have g8 : gI (wX b X) (b + (2 + 5 * i)) [5] 8 = some (nI ls) := by rw [Sl_i8 hp, hS.2.2.2.2.1]
  have g7 : gI (wX b X) (b + (2 + 5 * i)) [5] 7 = some (nI (1 - off)) := by rw [Sl_i7 hp, hS.2.2.2.1]
  by_cases hh : hears f off ls
  · -- it hears
    have hmid : ∃ Y, (if nI (refN f a c v) = 0 then (gO (wX b X) (b + (2 + 5 * i)) [5]).bind fun q11 => (fSl_carryOut (b + (2 + 5 * i)) (b + o) (wX b X)).bind fun S10 => some S10 else some (wX b X)) = some (wX b Y) ∧ Ch [2 + 5 * i, 2 + 5 * i + 1, 2 + 5 * i + 3] X Y ∧ SlC Y i al ln d off (if hears f off ls ∧ refN f a c v = 0 then acL f a ls else ls) (if hears f off ls ∧ refN f a c v = 0 then acT f a c v tb else tb) := by
      have hrl : refN f a c v < 2 ^ 31 := by
        unfold refN
        repeat' split
        all_goals omega
      simp only [q_0 hrl]
      by_cases hr : refN f a c v = 0
      · obtain ⟨Y, e1, e2, e3⟩ := c_carryOut (b := b) hi ⟨v1, v2, v3, v4, v5, v6⟩ hS h hr
        obtain ⟨qs, gs⟩ := Sl_o (b := b) (X := X) hp
        refine ⟨Y, ?_, e3, ?_⟩
        · rw [if_pos hr, bs gs, bs e1]
        · rw [if_pos ⟨hh, hr⟩, if_pos ⟨hh, hr⟩]
          exact e2
      · refine ⟨X, by rw [if_neg hr], Ch.rf, ?_⟩
        rw [if_neg (fun q => hr q.2), if_neg (fun q => hr q.2)]
        exact hS
    obtain ⟨Y, e1, e2, e3⟩ := hmid
    have h' := h.ch e2 (jo_sls h.1 hi)
    obtain ⟨qj, gj, -⟩ := jo_o (b := b) h.1
    obtain ⟨qj', gj', -⟩ := jo_o (b := b) h'.1
    have g8' : gI (wX b Y) (b + (2 + 5 * i)) [5] 8 = some (nI (if hears f off ls ∧ refN f a c v = 0 then acL f a ls else ls)) := by rw [Sl_i8 hp, e3.2.2.2.2.1]
    have hL : (if hears f off ls ∧ refN f a c v = 0 then acL f a ls else ls) = (if refN f a c v = 0 then acL f a ls else ls) := by
      by_cases hr : refN f a c v = 0
      · rw [if_pos ⟨hh, hr⟩, if_pos hr]
      · rw [if_neg (fun q => hr q.2), if_neg hr]
    have hLl : (if refN f a c v = 0 then acL f a ls else ls) < 2 ^ 31 := by
      unfold acL
      repeat' split
      all_goals omega
    have hJ : fSl_obey_J27_1 (wX b X) (b + o) (b + (2 + 5 * i)) (nI ls) = some (if u ≠ 0 ∧ ls = 0 ∧ (if refN f a c v = 0 then acL f a ls else ls) = 0 then 1 else 0, wX b Y) := by
      unfold fSl_obey_J27_1
      rw [bs gj, bs (s_refusal h)]
      dsimp only
      rw [bs e1, bs gj', bs (s_isB h')]
      dsimp only
      by_cases k0 : u = 0
      · rw [if_pos k0, if_neg (by decide), bs bz_0, if_neg (by omega)]
      · rw [if_neg k0, if_pos rfl]
        by_cases k1 : ls = 0
        · rw [if_pos (by rw [q_0 (by omega)]; exact k1), bs g8', hL]
          by_cases k2 : (if refN f a c v = 0 then acL f a ls else ls) = 0
          · rw [if_pos (by rw [q_0 hLl]; exact k2), bs bz_1]
            have : u ≠ 0 ∧ ls = 0 ∧ (if refN f a c v = 0 then acL f a ls else ls) = 0 := ⟨k0, k1, k2⟩
            rw [if_pos this]
          · rw [if_neg (by rw [q_0 hLl]; exact k2), bs bz_0]
            have : ¬ (u ≠ 0 ∧ ls = 0 ∧ (if refN f a c v = 0 then acL f a ls else ls) = 0) := fun q => k2 q.2.2
            rw [if_neg this]
        · rw [if_neg (by rw [q_0 (by omega)]; exact k1), bs bz_0]
          have : ¬ (u ≠ 0 ∧ ls = 0 ∧ (if refN f a c v = 0 then acL f a ls else ls) = 0) := fun q => k1 q.2.1
          rw [if_neg this]
    refine ⟨Y, (if u ≠ 0 ∧ ls = 0 ∧ (if refN f a c v = 0 then acL f a ls else ls) = 0 then 1 else 0), ?_, ?_, e2, e3⟩
    · unfold fSl_obey
      rw [bs g8, bs g7, if_neg (by rw [q_0 (by omega)]; have := hh.1; omega)]
      by_cases k1 : ls = 0
      · rw [if_pos (by rw [q_0 (by omega)]; exact k1), hJ]
      · have k8 : f = 8 := by have := hh.2; omega
        rw [if_neg (by rw [q_0 (by omega)]; exact k1), bs h.g2, if_pos (by rw [q_8 (by omega)]; exact k8), hJ]
    · by_cases q : u ≠ 0 ∧ ls = 0 ∧ (if refN f a c v = 0 then acL f a ls else ls) = 0
      · exact Or.inl ⟨⟨hh, q⟩, if_pos q⟩
      · exact Or.inr ⟨fun z => q z.2, if_neg q⟩
  · -- it does not
    refine ⟨X, 0, ?_, Or.inr ⟨fun z => hh z.1, rfl⟩, Ch.rf, ?_⟩
    · unfold fSl_obey
      rw [bs g8, bs g7]
      by_cases k0 : off = 0
      · subst k0
        have hn : ¬ (ls = 0 ∨ f = 8) := fun z => hh ⟨rfl, z⟩
        rw [if_neg (by decide), if_neg (by rw [q_0 (by omega)]; omega), bs h.g2, if_neg (by rw [q_8 (by omega)]; omega), bs bz_0]
      · rw [if_pos (by rw [q_0 (by omega)]; omega), bs bz_0]
    · rw [if_neg (fun q => hh q.1), if_neg (fun q => hh q.1)]
      exact hS
end OB2
