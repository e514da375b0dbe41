/-! A slave does a job, and says whether it answers: the program's side. -/
section OB
variable {b : Nat} {X : Xs} {i o u f a c v al ln d off ls : Nat} {tb : Nat → Nat → Nat}
theorem jo_sl {p : Nat} (h : isJo X o) (hp : p < 92) : o ≠ p := by
  have := h.1
  omega
theorem jo_sls (h : isJo X o) (hi : i < 6) : o ∉ [2 + 5 * i, 2 + 5 * i + 1, 2 + 5 * i + 3] := by
  have := h.1
  simp
  omega
theorem tn1 : tn 1 = 16 := rfl
theorem tn2 : tn 2 = 16 := rfl
theorem tn3 : tn 3 = 8 := rfl
theorem tn4 : tn 4 = 8 := rfl
theorem SlC_ls (h : SlC X i al ln d off ls tb) (x : Nat) : SlC (X.sI (2 + 5 * i) 8 (nI x)) i al ln d off x tb := by
  obtain ⟨e0, e5, e6, e7, e8, et⟩ := h
  refine ⟨?_, ?_, ?_, ?_, ?_, fun t' k' a1 a4 ak => ?_⟩
  · rw [sI_I, up2_k (by decide)]; exact e0
  · rw [sI_I, up2_k (by decide)]; exact e5
  · rw [sI_I, up2_k (by decide)]; exact e6
  · rw [sI_I, up2_k (by decide)]; exact e7
  · rw [sI_I, up2_s]
  · rw [sI_I, up2_o (by omega)]; exact et t' k' a1 a4 ak
theorem c_carryOut (hi : i < 6) (hV : SlV al ln d off ls tb) (hS : SlC X i al ln d off ls tb) (h : JobN X o u f a c v) (hr : refN f a c v = 0) : ∃ Y, fSl_carryOut (b + (2 + 5 * i)) (b + o) (wX b X) = some (wX b Y) ∧ SlC Y i al ln d off (acL f a ls) (acT f a c v tb) ∧ Ch [2 + 5 * i, 2 + 5 * i + 1, 2 + 5 * i + 3] X Y := by
  have hp := isSl_of hi
  have hw := s_word (b := b) h (k := 0) (by decide)
  rw [nI_0] at hw
  have hw1 := s_word (b := b) h (k := 1) (by decide)
  rw [show nI 1 = (1 : Int32) from rfl] at hw1
  obtain ⟨qj, gj, -⟩ := jo_o (b := b) h.1
  obtain ⟨qs, gs⟩ := Sl_o (b := b) (X := X) hp
  have hwl := wN_lt v 0
  have hwl1 := wN_lt v 1
  have hf1 := h.2.2.2.1
  have hf := h.2.2.2.2.1
  have ha := h.2.2.2.2.2.1
  have hc := h.2.2.2.2.2.2.1
  have hv := h.2.2.2.2.2.2.2
  by_cases k5 : f = 5
  · subst k5
    have h16 : a < 16 := by
      unfold refN at hr
      rw [if_neg (by decide), if_neg (by decide), if_pos (by decide)] at hr
      split at hr
      · split at hr <;> omega
      · omega
    have hT : acT 5 a c v tb = tbR tb 1 a 1 (fun _ => if wN v 0 = 65280 then 1 else 0) := by unfold acT; rw [if_pos (by decide)]
    refine ⟨X.sI (2 + 5 * i + 1) a (nI (if wN v 0 = 65280 then 1 else 0)), ?_, ?_, Ch.rf.sI (by simp)⟩
    · unfold fSl_carryOut
      rw [bs h.g2, if_pos (by decide), bs (Sl_r1 hp), bs h.g3, bs gj, bs hw]
      dsimp only
      have e : (if nI (wN v 0) = (65280 : Int32) then some (1 : Int32) else some (0 : Int32)) = some (nI (if wN v 0 = 65280 then 1 else 0)) := by
        simp only [q_65280 (show wN v 0 < 2 ^ 31 by omega)]
        split <;> rfl
      rw [bs e, Option.bind_some, bs (sl_put hp (by decide) (by decide) h16 _)]
    · rw [hT]
      exact hS.put (by decide) (by decide)
  by_cases k6 : f = 6
  · subst k6
    have h8 : a < 8 := by
      unfold refN at hr
      rw [if_neg (by decide), if_neg (by decide), if_neg (by decide), if_pos (by decide)] at hr
      split at hr <;> omega
    have hT : acT 6 a c v tb = tbR tb 3 a 1 (fun _ => wN v 0) := by unfold acT; rw [if_neg (by decide), if_pos (by decide)]
    refine ⟨X.sI (2 + 5 * i + 3) a (nI (wN v 0)), ?_, ?_, Ch.rf.sI (by simp)⟩
    · unfold fSl_carryOut
      rw [bs h.g2, if_neg (by decide), if_pos (by decide), bs (Sl_r3 hp), bs h.g3, bs gj, bs hw]
      dsimp only
      rw [Option.bind_some, bs (sl_put hp (by decide) (by decide) h8 _)]
    · rw [hT]
      exact hS.put (by decide) (by decide)
  by_cases k22 : f = 22
  · subst k22
    have h8 : a < 8 := by
      unfold refN at hr
      rw [if_neg (by decide), if_neg (by decide), if_neg (by decide), if_pos (by decide)] at hr
      split at hr <;> omega
    have hT : acT 22 a c v tb = tbR tb 3 a 1 (fun _ => mk3 (tb 3 a) (wN v 0) (wN v 1)) := by unfold acT; rw [if_neg (by decide), if_neg (by decide), if_pos (by decide)]
    refine ⟨X.sI (2 + 5 * i + 3) a (nI (mk3 (tb 3 a) (wN v 0) (wN v 1))), ?_, ?_, Ch.rf.sI (by simp)⟩
    · unfold fSl_carryOut
      rw [bs h.g2, if_neg (by decide), if_neg (by decide), if_neg (by decide), if_neg (by decide), if_neg (by decide), if_neg (by decide), if_pos (by decide), bs (Sl_r3 hp), bs h.g3, bs (Sl_r3 hp), bs h.g3, Option.bind_some, bs (sl_get hp (by decide) (by decide) h8)]
      dsimp only
      rw [bs gj, bs hw]
      dsimp only
      rw [bs gj, bs hw1]
      dsimp only
      unfold fSl_masked
      rw [Option.bind_some, hS.2.2.2.2.2 3 a (by decide) (by decide) h8, mk3_i hwl1]
      dsimp only
      rw [Option.bind_some, bs (sl_put hp (by decide) (by decide) h8 _)]
    · rw [hT]
      exact hS.put (by decide) (by decide)
  by_cases k15 : f = 15
  · subst k15
    have hac : 1 ≤ c ∧ a + c ≤ 16 := by
      unfold refN at hr
      rw [if_pos (by decide)] at hr
      split at hr
      · omega
      · split at hr
        · omega
        · split at hr <;> omega
    have hT : acT 15 a c v tb = tbR tb 1 a c (fun k => v / 2 ^ k % 2) := by unfold acT; rw [if_neg (by decide), if_neg (by decide), if_neg (by decide), if_pos (by decide)]
    rw [hT]
    have key := lp_inv (step := fSl_carryOut_L180 (b + (2 + 5 * i)) (b + o)) (Q := fun W => ∃ Y, W = wX b Y ∧ SlC Y i al ln d off ls (tbR tb 1 a c (fun k => v / 2 ^ k % 2)) ∧ Ch [2 + 5 * i, 2 + 5 * i + 1, 2 + 5 * i + 3] X Y) (fun k q => ∃ Y, q = (nI k, wX b Y) ∧ SlC Y i al ln d off ls (tbR tb 1 a k (fun k => v / 2 ^ k % 2)) ∧ Ch [2 + 5 * i, 2 + 5 * i + 1, 2 + 5 * i + 3] X Y) c ?_ ?_ 1000 ((0 : Int32), wX b X) (by omega) ⟨_, rfl, by rw [tbR_0]; exact hS, Ch.rf⟩
    · obtain ⟨W, k1, Y, rfl, k2, k3⟩ := key
      refine ⟨Y, ?_, k2, k3⟩
      unfold fSl_carryOut
      rw [bs h.g2, if_neg (by decide), if_neg (by decide), if_neg (by decide), if_neg (by decide), if_pos (by decide), bs k1]
    · rintro k q hk ⟨Y, rfl, i1, i2⟩
      have h' := h.ch i2 (jo_sls h.1 hi)
      obtain ⟨qj, gj, -⟩ := jo_o (b := b) h'.1
      refine ⟨(nI (k + 1), wX b (Y.sI (2 + 5 * i + 1) (a + k) (nI (v / 2 ^ k % 2)))), ?_, _, rfl, ?_, i2.sI (by simp)⟩
      · unfold fSl_carryOut_L180
        dsimp only
        rw [bs h'.g4, if_neg (nI_ge hk (by omega)), bs (Sl_r1 hp), bs h'.g3, bs gj, bs (s_bit h' (show k < 64 by omega))]
        dsimp only
        rw [Option.bind_some, nI_add, bs (sl_put hp (by decide) (by decide) (show a + k < 16 by omega) _), nI_1]
      · rw [← tbR_ext]
        exact i1.put (by decide) (by decide)
    · rintro q ⟨Y, rfl, i1, i2⟩
      have h' := h.ch i2 (jo_sls h.1 hi)
      refine ⟨_, ?_, Y, rfl, i1, i2⟩
      unfold fSl_carryOut_L180
      dsimp only
      rw [bs h'.g4, if_pos (nI_le (Nat.le_refl _) (by omega))]
  by_cases k16 : f = 16
  · subst k16
    have hac : 1 ≤ c ∧ c ≤ 4 ∧ a + c ≤ 8 := by
      unfold refN at hr
      rw [if_neg (by decide), if_pos (by decide)] at hr
      split at hr
      · omega
      · split at hr
        · omega
        · split at hr <;> omega
    have hT : acT 16 a c v tb = tbR tb 3 a c (fun k => wN v k) := by unfold acT; rw [if_neg (by decide), if_neg (by decide), if_neg (by decide), if_neg (by decide), if_pos (by decide)]
    rw [hT]
    have key := lp_inv (step := fSl_carryOut_L217 (b + (2 + 5 * i)) (b + o)) (Q := fun W => ∃ Y, W = wX b Y ∧ SlC Y i al ln d off ls (tbR tb 3 a c (fun k => wN v k)) ∧ Ch [2 + 5 * i, 2 + 5 * i + 1, 2 + 5 * i + 3] X Y) (fun k q => ∃ Y, q = (nI k, wX b Y) ∧ SlC Y i al ln d off ls (tbR tb 3 a k (fun k => wN v k)) ∧ Ch [2 + 5 * i, 2 + 5 * i + 1, 2 + 5 * i + 3] X Y) c ?_ ?_ 1000 ((0 : Int32), wX b X) (by omega) ⟨_, rfl, by rw [tbR_0]; exact hS, Ch.rf⟩
    · obtain ⟨W, k1, Y, rfl, k2, k3⟩ := key
      refine ⟨Y, ?_, k2, k3⟩
      unfold fSl_carryOut
      rw [bs h.g2, if_neg (by decide), if_neg (by decide), if_neg (by decide), if_neg (by decide), if_neg (by decide), if_pos (by decide), bs k1]
    · rintro k q hk ⟨Y, rfl, i1, i2⟩
      have h' := h.ch i2 (jo_sls h.1 hi)
      obtain ⟨qj, gj, -⟩ := jo_o (b := b) h'.1
      refine ⟨(nI (k + 1), wX b (Y.sI (2 + 5 * i + 3) (a + k) (nI (wN v k)))), ?_, _, rfl, ?_, i2.sI (by simp)⟩
      · unfold fSl_carryOut_L217
        dsimp only
        rw [bs h'.g4, if_neg (nI_ge hk (by omega)), bs (Sl_r3 hp), bs h'.g3, bs gj, bs (s_word h' (show k < 2 ^ 31 by omega))]
        dsimp only
        rw [Option.bind_some, nI_add, bs (sl_put hp (by decide) (by decide) (show a + k < 8 by omega) _), nI_1]
      · rw [← tbR_ext]
        exact i1.put (by decide) (by decide)
    · rintro q ⟨Y, rfl, i1, i2⟩
      have h' := h.ch i2 (jo_sls h.1 hi)
      refine ⟨_, ?_, Y, rfl, i1, i2⟩
      unfold fSl_carryOut_L217
      dsimp only
      rw [bs h'.g4, if_pos (nI_le (Nat.le_refl _) (by omega))]
  have hT : acT f a c v tb = tb := by unfold acT; rw [if_neg k5, if_neg k6, if_neg k22, if_neg k15, if_neg k16]
  rw [hT]
  by_cases k8 : f = 8
  · subst k8
    have ee : ∀ r, (fSl_changeMode (b + (2 + 5 * i)) (nI a) (wX b X)) = some r → fSl_carryOut (b + (2 + 5 * i)) (b + o) (wX b X) = some r := by
      intro r hr
      unfold fSl_carryOut
      rw [bs h.g2, if_neg (by decide), if_neg (by decide), if_neg (by decide), if_pos (by decide), bs h.g3, bs gs, bs hr]
    by_cases a1 : a = 1
    · subst a1
      refine ⟨X.sI (2 + 5 * i) 8 (nI 0), ee _ ?_, SlC_ls hS 0, Ch.rf.sI (by simp)⟩
      unfold fSl_changeMode
      rw [if_pos (by decide), bs bz_0]
      have e := Sl_p8 (b := b) (X := X) (x := nI 0) hp
      rw [show (Value.int (0 : Int32)) = Value.int (nI 0) from rfl, bs e]
    · by_cases a4 : a = 4
      · subst a4
        refine ⟨X.sI (2 + 5 * i) 8 (nI 1), ee _ ?_, SlC_ls hS 1, Ch.rf.sI (by simp)⟩
        unfold fSl_changeMode
        rw [if_neg (by decide), if_pos (by decide), bs bz_1]
        have e := Sl_p8 (b := b) (X := X) (x := nI 1) hp
        rw [show (Value.int (1 : Int32)) = Value.int (nI 1) from rfl, bs e]
      · refine ⟨X, ee _ ?_, ?_, Ch.rf⟩
        · unfold fSl_changeMode
          rw [if_neg (by rw [q_1 (by omega)]; exact a1), if_neg (by rw [q_4 (by omega)]; exact a4)]
        · unfold acL
          rw [if_pos (by decide), if_neg a1, if_neg a4]
          exact hS
  · refine ⟨X, ?_, ?_, Ch.rf⟩
    · unfold fSl_carryOut
      rw [bs h.g2, if_neg (by rw [q_5 (by omega)]; exact k5), if_neg (by rw [q_6 (by omega)]; exact k6)]
      by_cases kk : nI f = 7 ∨ nI f = 9 ∨ nI f = 10 ∨ nI f = 11 ∨ nI f = 12 ∨ nI f = 13 ∨ nI f = 14 ∨ nI f = 17 ∨ nI f = 18 ∨ nI f = 19 ∨ nI f = 20 ∨ nI f = 21
      · rw [if_pos kk]
      · rw [if_neg kk, if_neg (by rw [q_8 (by omega)]; exact k8), if_neg (by rw [q_15 (by omega)]; exact k15), if_neg (by rw [q_16 (by omega)]; exact k16), if_neg (by rw [q_22 (by omega)]; exact k22)]
    · unfold acL
      rw [if_neg k8]
      exact hS
end OB
