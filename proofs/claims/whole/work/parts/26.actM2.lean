section AM2
variable {b : Nat} {X : Xs} {i u f a c v al ln d off ls : Nat} {tb : Nat → Nat → Nat}
theorem m_write15 (hi : i < 6) (hS : SlM X i al ln d off ls tb) (hac : a + c ≤ 16) (hv : v < 2 ^ 64) : ∃ Y, fMo_write (b + 56) (nI (i + 1)) (nI 15) (nI a) (nI c) (lN v) (wX b X) = some (wX b Y) ∧ SlM Y i al ln d off ls (tbR tb 1 a c (fun k => v / 2 ^ k % 2)) ∧ ChS i X Y ∧ Y.J 56 = X.J 56 ∧ Y.I 56 = X.I 56 := by
  have key := lp_inv (step := fMo_write_L3 (b + 56) (nI (i + 1)) (nI 15) (nI a) (nI c) (lN v)) (Q := fun W => ∃ Y, W = wX b Y ∧ SlM Y i al ln d off ls (tbR tb 1 a c (fun k => v / 2 ^ k % 2)) ∧ ChS i X Y ∧ Y.J 56 = X.J 56 ∧ Y.I 56 = X.I 56) (fun k q => ∃ Y, q = (nI k, wX b Y) ∧ SlM Y i al ln d off ls (tbR tb 1 a k (fun k => v / 2 ^ k % 2)) ∧ ChS i X Y ∧ Y.J 56 = X.J 56 ∧ Y.I 56 = X.I 56) c ?_ ?_ 1000 ((0 : Int32), wX b X) (by omega) ⟨_, rfl, by rw [tbR_0]; exact hS, ChS.rf, rfl, rfl⟩
  · obtain ⟨W, k1, Y, rfl, k2, k3⟩ := key
    refine ⟨Y, ?_, k2, k3⟩
    unfold fMo_write
    rw [bs k1]
  · rintro k q hk ⟨Y, rfl, i1, i2, i3, i4⟩
    have ei : ((16 : Int32) * nI (i + 1) + nI a) + nI k = nI (16 * (i + 1) + (a + k)) := by
      rw [show (16 : Int32) * nI (i + 1) + nI a = nI (16 * (i + 1) + a) from m_idx 16 _ _, nI_add, Nat.add_assoc]
    refine ⟨(nI (k + 1), wX b (Y.sI 62 (16 * (i + 1) + (a + k)) (nI (v / 2 ^ k % 2)))), ?_, _, rfl, ?_, i2.tr (ChS.tab (t := 1) (Or.inl rfl) (show a + k < 16 by omega)), i3, ?_⟩
    · unfold fMo_write_L3
      dsimp only
      rw [if_neg (nI_ge hk (by omega)), if_pos (by decide), bs mo_r6, Option.bind_some, ei, mo_s62, bt_m hv (by omega), ax_of (show 16 * (i + 1) + (a + k) < 112 by omega) (by decide) rfl, Option.bind_some, Option.bind_some, nI_1]
    · rw [← tbR_ext]
      exact i1.put (t := 1) (Or.inl rfl) (show a + k < 16 by omega)
    · rw [sI_I, up2_row (by decide)]; exact i4
  · rintro q ⟨Y, rfl, i1, i2⟩
    refine ⟨_, ?_, Y, rfl, i1, i2⟩
    unfold fMo_write_L3
    dsimp only
    rw [if_pos (nI_le (Nat.le_refl _) (by omega))]
theorem m_write16 (hi : i < 6) (hS : SlM X i al ln d off ls tb) (hac : a + c ≤ 8) (hv : v < 2 ^ 64) : ∃ Y, fMo_write (b + 56) (nI (i + 1)) (nI 16) (nI a) (nI c) (lN v) (wX b X) = some (wX b Y) ∧ SlM Y i al ln d off ls (tbR tb 3 a c (fun k => wN v k)) ∧ ChS i X Y ∧ Y.J 56 = X.J 56 ∧ Y.I 56 = X.I 56 := by
  have key := lp_inv (step := fMo_write_L3 (b + 56) (nI (i + 1)) (nI 16) (nI a) (nI c) (lN v)) (Q := fun W => ∃ Y, W = wX b Y ∧ SlM Y i al ln d off ls (tbR tb 3 a c (fun k => wN v k)) ∧ ChS i X Y ∧ Y.J 56 = X.J 56 ∧ Y.I 56 = X.I 56) (fun k q => ∃ Y, q = (nI k, wX b Y) ∧ SlM Y i al ln d off ls (tbR tb 3 a k (fun k => wN v k)) ∧ ChS i X Y ∧ Y.J 56 = X.J 56 ∧ Y.I 56 = X.I 56) c ?_ ?_ 1000 ((0 : Int32), wX b X) (by omega) ⟨_, rfl, by rw [tbR_0]; exact hS, ChS.rf, rfl, rfl⟩
  · obtain ⟨W, k1, Y, rfl, k2, k3⟩ := key
    refine ⟨Y, ?_, k2, k3⟩
    unfold fMo_write
    rw [bs k1]
  · rintro k q hk ⟨Y, rfl, i1, i2, i3, i4⟩
    have ei : ((8 : Int32) * nI (i + 1) + nI a) + nI k = nI (8 * (i + 1) + (a + k)) := by
      rw [show (8 : Int32) * nI (i + 1) + nI a = nI (8 * (i + 1) + a) from m_idx 8 _ _, nI_add, Nat.add_assoc]
    refine ⟨(nI (k + 1), wX b (Y.sI 64 (8 * (i + 1) + (a + k)) (nI (wN v k)))), ?_, _, rfl, ?_, i2.tr (ChS.tab (t := 3) (Or.inr rfl) (show a + k < 8 by omega)), i3, ?_⟩
    · unfold fMo_write_L3
      dsimp only
      rw [if_neg (nI_ge hk (by omega)), if_neg (by decide), bs mo_r8, bs (m_word _ hv (show k < 2 ^ 31 by omega))]
      dsimp only
      rw [Option.bind_some, ei, mo_s64, ax_of (show 8 * (i + 1) + (a + k) < 56 by omega) (by decide) rfl, Option.bind_some, Option.bind_some, nI_1]
    · rw [← tbR_ext]
      exact i1.put (t := 3) (Or.inr rfl) (show a + k < 8 by omega)
    · rw [sI_I, up2_row (by decide)]; exact i4
  · rintro q ⟨Y, rfl, i1, i2⟩
    refine ⟨_, ?_, Y, rfl, i1, i2⟩
    unfold fMo_write_L3
    dsimp only
    rw [if_pos (nI_le (Nat.le_refl _) (by omega))]
theorem ChS.lis {x : Nat} : ChS i X (X.sI 61 (i + 1) (nI x)) := by
  refine ⟨Ch.rf.sI (by simp), ?_, fun q _ => by rw [sI_I, up2_o (by decide)]⟩
  intro j al ln d off ls tb hj hj6 hS
  obtain ⟨e0, e1, e2, e3, e4, et⟩ := hS
  refine ⟨?_, ?_, ?_, ?_, ?_, fun t' k' a1 a4 ak => ?_⟩
  · rw [sI_I, up2_o (by decide)]; exact e0
  · rw [sI_I, up2_o (by decide)]; exact e1
  · rw [sI_I, up2_o (by decide)]; exact e2
  · rw [sI_I, up2_o (by decide)]; exact e3
  · rw [sI_I, up2_k (by omega)]; exact e4
  · rw [sI_I, up2_o (by omega)]; exact et t' k' a1 a4 ak
theorem SlM_ls (h : SlM X i al ln d off ls tb) (x : Nat) : SlM (X.sI 61 (i + 1) (nI x)) i al ln d off x tb := by
  obtain ⟨e0, e1, e2, e3, e4, et⟩ := h
  refine ⟨?_, ?_, ?_, ?_, ?_, fun t' k' a1 a4 ak => ?_⟩
  · rw [sI_I, up2_o (by decide)]; exact e0
  · rw [sI_I, up2_o (by decide)]; exact e1
  · rw [sI_I, up2_o (by decide)]; exact e2
  · rw [sI_I, up2_o (by decide)]; exact e3
  · rw [sI_I, up2_s]
  · rw [sI_I, up2_o (by omega)]; exact et t' k' a1 a4 ak
theorem ref0 {f a c v : Nat} (hr : refN f a c v = 0) : ((f = 1 ∨ f = 2 ∨ f = 15) ∧ 1 ≤ c ∧ c ≤ 16 ∧ a + c ≤ 16) ∨ ((f = 3 ∨ f = 4 ∨ f = 16) ∧ 1 ≤ c ∧ c ≤ 4 ∧ a + c ≤ 8) ∨ (f = 5 ∧ (wN v 0 = 0 ∨ wN v 0 = 65280) ∧ a < 16) ∨ ((f = 6 ∨ f = 22) ∧ a < 8) ∨ (f = 8 ∧ (a = 0 ∨ a = 1 ∨ a = 4)) := by
  unfold refN at hr
  repeat' split at hr
  all_goals first | omega | (exfalso; omega)
theorem m_act (hi : i < 6) (hV : SlV al ln d off ls tb) (hS : SlM X i al ln d off ls tb) (hf1 : 1 ≤ f) (hf : f < 128) (ha : a < 65536) (hc : c ≤ 16) (hv : v < 2 ^ 64) (hr : refN f a c v = 0) : ∃ Y, fMo_act (b + 56) (nI (i + 1)) (nI f) (nI a) (nI c) (lN v) (wX b X) = some (wX b Y) ∧ SlM Y i al ln d off (acL f a ls) (acT f a c v tb) ∧ Y.J 56 40 = lN (svN f a c v tb) ∧ Y.I 56 39 = X.I 56 39 ∧ ChS i X Y := by
  have w0 : ∀ S, fMo_word (lN v) (0 : Int32) S = some (nI (wN v 0), S) := fun S => m_word S hv (k := 0) (by decide)
  have w1 : ∀ S, fMo_word (lN v) (1 : Int32) S = some (nI (wN v 1), S) := fun S => m_word S hv (k := 1) (by decide)
  have hl0 := wN_lt v 0
  have hl1 := wN_lt v 1
  have eJ : (nI (wN v 0)).toInt64 = lN (wN v 0) := nI_l (by omega)
  have hS1 : SlM (X.sJ 56 40 (lN (wN v 0))) i al ln d off ls tb := hS
  have hls := hV.2.2.2.2.1
  have ei16 : (16 : Int32) * nI (i + 1) + nI a = nI (16 * (i + 1) + a) := m_idx 16 _ _
  have ei8 : (8 : Int32) * nI (i + 1) + nI a = nI (8 * (i + 1) + a) := m_idx 8 _ _
  rcases ref0 hr with ⟨hk, h1, h2, h3⟩ | ⟨hk, h1, h2, h3⟩ | ⟨rfl, h1, h2⟩ | ⟨hk, h1⟩ | ⟨rfl, h1⟩
  · by_cases k15 : f = 15
    · subst k15
      obtain ⟨Y, e1, e2, e3, e4, e5⟩ := m_write15 (b := b) (X := X.sJ 56 40 (lN (wN v 0))) hi hS1 h3 hv
      refine ⟨Y.sJ 56 40 (lN c), ?_, e2, by rw [sJ_J, up2_s]; rfl, by rw [sJ_I, e5]; rfl, (ChS.saidV.tr e3).tr ChS.saidV⟩
      unfold fMo_act
      rw [bs (w0 _)]
      dsimp only
      rw [bs (w1 _)]
      dsimp only
      rw [eJ, bs mo_p40, if_neg (by decide), if_neg (by decide), if_neg (by decide), if_neg (by decide), if_pos (by decide), bs mo_o, bs e1, nI_l (by omega), bs mo_p40]
    · have hf2 : f = 1 ∨ f = 2 := by omega
      have hrd := m_read (b := b) (X := X.sJ 56 40 (lN (wN v 0))) (s := 1) (f := f) (a := a) (c := c) (by rw [if_pos (by omega)]) hi hS1 hV hf1 (by omega) ha hc (by rcases hf2 with rfl | rfl <;> exact h3) (by omega)
      refine ⟨(X.sJ 56 40 (lN (wN v 0))).sJ 56 40 (lN (sumB (fun k => tb f (a + k)) 1 c)), ?_, ?_, ?_, rfl, ChS.saidV.tr ChS.saidV⟩
      · unfold fMo_act
        rw [bs (w0 _)]
        dsimp only
        rw [bs (w1 _)]
        dsimp only
        rw [eJ, bs mo_p40]
        rcases hf2 with rfl | rfl
        · rw [if_neg (by decide), if_neg (by decide), if_neg (by decide), if_neg (by decide), if_neg (by decide), if_neg (by decide), bs mo_o, bs hrd]
          dsimp only
          rw [bs mo_p40]
        · rw [if_neg (by decide), if_neg (by decide), if_neg (by decide), if_neg (by decide), if_neg (by decide), if_neg (by decide), bs mo_o, bs hrd]
          dsimp only
          rw [bs mo_p40]
      · unfold acL acT
        rw [if_neg (by omega), if_neg (by omega), if_neg (by omega), if_neg (by omega), if_neg (by omega), if_neg (by omega)]
        exact hS
      · unfold svN
        rw [if_pos hf2, sJ_J, up2_s]
  · by_cases k16 : f = 16
    · subst k16
      obtain ⟨Y, e1, e2, e3, e4, e5⟩ := m_write16 (b := b) (X := X.sJ 56 40 (lN (wN v 0))) hi hS1 h3 hv
      refine ⟨Y.sJ 56 40 (lN c), ?_, e2, by rw [sJ_J, up2_s]; rfl, by rw [sJ_I, e5]; rfl, (ChS.saidV.tr e3).tr ChS.saidV⟩
      unfold fMo_act
      rw [bs (w0 _)]
      dsimp only
      rw [bs (w1 _)]
      dsimp only
      rw [eJ, bs mo_p40, if_neg (by decide), if_neg (by decide), if_neg (by decide), if_neg (by decide), if_pos (by decide), bs mo_o, bs e1, nI_l (by omega), bs mo_p40]
    · have hf2 : f = 3 ∨ f = 4 := by omega
      have hrd := m_read (b := b) (X := X.sJ 56 40 (lN (wN v 0))) (s := 16) (f := f) (a := a) (c := c) (by rw [if_neg (by omega)]) hi hS1 hV hf1 (by omega) ha hc (by rcases hf2 with rfl | rfl <;> exact h3) (by omega)
      refine ⟨(X.sJ 56 40 (lN (wN v 0))).sJ 56 40 (lN (sumB (fun k => tb f (a + k)) 16 c)), ?_, ?_, ?_, rfl, ChS.saidV.tr ChS.saidV⟩
      · unfold fMo_act
        rw [bs (w0 _)]
        dsimp only
        rw [bs (w1 _)]
        dsimp only
        rw [eJ, bs mo_p40]
        rcases hf2 with rfl | rfl
        · rw [if_neg (by decide), if_neg (by decide), if_neg (by decide), if_neg (by decide), if_neg (by decide), if_neg (by decide), bs mo_o, bs hrd]
          dsimp only
          rw [bs mo_p40]
        · rw [if_neg (by decide), if_neg (by decide), if_neg (by decide), if_neg (by decide), if_neg (by decide), if_neg (by decide), bs mo_o, bs hrd]
          dsimp only
          rw [bs mo_p40]
      · unfold acL acT
        rw [if_neg (by omega), if_neg (by omega), if_neg (by omega), if_neg (by omega), if_neg (by omega), if_neg (by omega)]
        exact hS
      · unfold svN
        rw [if_neg (by omega), if_pos hf2, sJ_J, up2_s]
  · refine ⟨(X.sJ 56 40 (lN (wN v 0))).sI 62 (16 * (i + 1) + a) (nI (if wN v 0 = 65280 then 1 else 0)), ?_, hS1.put (t := 1) (Or.inl rfl) h2, ?_, by rw [sI_I, up2_o (by decide)]; rfl, ChS.saidV.tr (ChS.tab (t := 1) (Or.inl rfl) h2)⟩
    · have e : (if nI (wN v 0) = (0 : Int32) then some (0 : Int32) else some (1 : Int32)) = some (nI (if wN v 0 = 65280 then 1 else 0)) := by
        simp only [q_0 (show wN v 0 < 2 ^ 31 by omega)]
        rcases h1 with h1 | h1
        · rw [if_pos h1, if_neg (by omega)]; rfl
        · rw [if_neg (by omega), if_pos h1]; rfl
      unfold fMo_act
      rw [bs (w0 _)]
      dsimp only
      rw [bs (w1 _)]
      dsimp only
      rw [eJ, bs mo_p40, if_pos (by decide), bs mo_r6, bs e, Option.bind_some, ei16, mo_s62, ax_of (show 16 * (i + 1) + a < 112 by omega) (by decide) rfl, Option.bind_some, Option.bind_some]
    · rw [sI_J, sJ_J, up2_s]; rfl
  · rcases hk with rfl | rfl
    · refine ⟨(X.sJ 56 40 (lN (wN v 0))).sI 64 (8 * (i + 1) + a) (nI (wN v 0)), ?_, hS1.put (t := 3) (Or.inr rfl) h1, ?_, by rw [sI_I, up2_o (by decide)]; rfl, ChS.saidV.tr (ChS.tab (t := 3) (Or.inr rfl) h1)⟩
      · unfold fMo_act
        rw [bs (w0 _)]
        dsimp only
        rw [bs (w1 _)]
        dsimp only
        rw [eJ, bs mo_p40, if_neg (by decide), if_pos (by decide), bs mo_r8, Option.bind_some, ei8, mo_s64, ax_of (show 8 * (i + 1) + a < 56 by omega) (by decide) rfl, Option.bind_some, Option.bind_some]
      · rw [sI_J, sJ_J, up2_s]; rfl
    · have hx : (X.sJ 56 40 (lN (wN v 0))).I 64 (8 * (i + 1) + a) = nI (tb 3 a) := hS.2.2.2.2.2 3 a (by decide) (by decide) h1
      refine ⟨((X.sJ 56 40 (lN (wN v 0))).sI 64 (8 * (i + 1) + a) (nI (mk3 (tb 3 a) (wN v 0) (wN v 1)))).sJ 56 40 (lN (wN v 0 + 65536 * wN v 1)), ?_, hS1.put (t := 3) (Or.inr rfl) h1, ?_, by rw [sJ_I, sI_I, up2_o (by decide)]; rfl, (ChS.saidV.tr (ChS.tab (t := 3) (Or.inr rfl) h1)).tr ChS.saidV⟩
      · have e22 : lN (wN v 0) ||| ((nI (wN v 1)).toInt64 <<< ((16 : Int32).toInt64 &&& 63)) = lN (wN v 0 + 65536 * wN v 1) := by
          rw [nI_l (by omega)]
          have h := wb_shl (wN v 1) (k := 16) (by decide)
          rw [show (16 : Int32).toInt64 = (nI 16).toInt64 from rfl, h, wb_or (by omega) (by omega)]
          congr 1
          have h2 := Nat.two_pow_add_eq_or_of_lt (i := 16) (b := wN v 0) (by omega) (wN v 1)
          rw [Nat.or_comm, Nat.mul_comm, ← h2, Nat.add_comm]
        unfold fMo_act
        rw [bs (w0 _)]
        dsimp only
        rw [bs (w1 _)]
        dsimp only
        rw [eJ, bs mo_p40, if_neg (by decide), if_neg (by decide), if_neg (by decide), if_neg (by decide), if_neg (by decide), if_pos (by decide), bs mo_r8, bs mo_r8, Option.bind_some, ei8, mo_a64, bs (ax_of (show 8 * (i + 1) + a < 56 by omega) (by decide) rfl), hx, Option.bind_some, Option.bind_some, mo_s64, ax_of (show 8 * (i + 1) + a < 56 by omega) (by decide) rfl, Option.bind_some, Option.bind_some, mk3_i hl1, e22, bs mo_p40]
      · rw [sJ_J, up2_s]; rfl
  · have hx : (X.sJ 56 40 (lN (wN v 0))).I 61 (i + 1) = nI ls := hS.2.2.2.2.1
    have e : (if nI a = (4 : Int32) then some (1 : Int32) else if nI a = 0 then (gR (wX b (X.sJ 56 40 (lN (wN v 0)))) (b + 56) [8] 5).bind fun r27 => (r27).bind fun a28 => (aI (wX b (X.sJ 56 40 (lN (wN v 0)))) a28 1 (nI (i + 1))).bind fun v29 => if v29 = 0 then some (0 : Int32) else some (1 : Int32) else some (0 : Int32)) = some (nI (acL 8 a ls)) := by
      simp only [q_4 (show a < 2 ^ 31 by omega), q_0 (show a < 2 ^ 31 by omega)]
      rcases h1 with rfl | rfl | rfl
      · rw [if_neg (by decide), if_pos rfl, bs mo_r5, Option.bind_some, mo_a61, bs (ax_of (show i + 1 < 7 by omega) (by decide) rfl), hx, Option.bind_some]
        have : ls = 0 ∨ ls = 1 := by omega
        rcases this with rfl | rfl <;> rfl
      · rfl
      · rfl
    have hz : acL 8 a ls < 2 := by
      unfold acL
      repeat' split
      all_goals omega
    have ez : bz (nI (acL 8 a ls)) = some (nI (acL 8 a ls)) := by
      have : acL 8 a ls = 0 ∨ acL 8 a ls = 1 := by omega
      rcases this with q | q <;> rw [q] <;> rfl
    refine ⟨(X.sJ 56 40 (lN (wN v 0))).sI 61 (i + 1) (nI (acL 8 a ls)), ?_, SlM_ls hS1 _, ?_, by rw [sI_I, up2_o (by decide)]; rfl, ChS.saidV.tr ChS.lis⟩
    · unfold fMo_act
      rw [bs (w0 _)]
      dsimp only
      rw [bs (w1 _)]
      dsimp only
      rw [eJ, bs mo_p40, if_neg (by decide), if_neg (by decide), if_neg (by decide), if_pos (by decide), bs mo_r5, bs e, Option.bind_some, bs ez, mo_s61, ax_of (show i + 1 < 7 by omega) (by decide) rfl, Option.bind_some, Option.bind_some]
    · rw [sI_J, sJ_J, up2_s]; rfl
end AM2
