section AN2
variable {b : Nat} {X : Xs} {i o p u f a c v al ln d off ls : Nat} {tb : Nat → Nat → Nat} {L : List Int32}
theorem c_writeWords (hi : i < 6) (hV : SlV al ln d off ls tb) (hS : SlC X i al ln d off ls tb) (h : JobN X o u f a c v) (hf : f = 3 ∨ f = 4) (hc4 : c ≤ 4) (hac : a + c ≤ 8) (hF : isFr p) : ∃ Y, fSl_writeWords (b + (2 + 5 * i)) (b + o) (b + p) (wX b X) = some (wX b Y) ∧ FrL Y p (sumd ([nI u, nI f] ++ wordsL (sumB (fun k => tb f (a + k)) 16 c) c)) ∧ Ch [p, p + 1] X Y := by
  have hp := isSl_of hi
  have hu := h.2.2.1
  have hnp := jo_fr h.1 hF
  have hns := sl_fr hi hF
  obtain ⟨qs, gs⟩ := Sl_o (b := b) (X := X) hp
  obtain ⟨qp, gp⟩ := Fr_o (b := b) (X := X) hF
  have hD : ∀ k, tb f (a + k) < 2 ^ 16 := fun k => by
    have := hV.2.2.2.2.2 f (a + k)
    rw [if_neg (by omega)] at this
    omega
  have hdig : ∀ k, k < c → wN (sumB (fun k => tb f (a + k)) 16 c) k = tb f (a + k) := fun k hk => by
    have := sumB_dig (D := fun k => tb f (a + k)) hD c hk
    unfold wN
    rw [Nat.mod_eq_of_lt (show k < 4 by omega)]
    exact this
  generalize sumB (fun k => tb f (a + k)) 16 c = V at hdig ⊢
  obtain ⟨Y, e1, f1, c1⟩ := s_begin (b := b) (X := X) hF (nI u) (nI f)
  rw [b8_id (B8_nI (by omega)), b8_id (B8_nI (by omega))] at f1
  have h1 := h.ch c1 hnp
  obtain ⟨qp1, gp1⟩ := Fr_o (b := b) (X := Y) hF
  obtain ⟨Y2, e2, f2, c2⟩ := s_addByte (b := b) hF f1 (by simp) (nI (2 * c))
  rw [b8_id (B8_nI (by omega))] at f2
  have e0 : (2 : Int32) * nI c = nI (2 * c) := pk_mul 2 c
  have hlen : ∀ n, ((List.range n).flatMap (fun k => wd (nI (wN V k)))).length = 2 * n := by
    intro n
    have := words_len V n
    simp [wordsL] at this
    simp only [List.length_flatMap]
    omega
  have key := lp_inv (step := fSl_writeWords_L34 (b + o) (b + p) (some (b + (2 + 5 * i + f)))) (Q := fun W => ∃ Z, W = wX b Z ∧ FrL Z p ([nI u, nI f] ++ wordsL V c) ∧ Ch [p, p + 1] X Z) (fun k q => ∃ Z, q = (nI k, wX b Z) ∧ FrL Z p ([nI u, nI f] ++ nI (2 * c) :: (List.range k).flatMap (fun k => wd (nI (wN V k)))) ∧ Ch [p, p + 1] X Z) c ?_ ?_ 1000 ((0 : Int32), wX b Y2) (by omega) ⟨_, rfl, by simpa using f2, c1.tr c2⟩
  · obtain ⟨W, k1, Z, rfl, k2, k3⟩ := key
    obtain ⟨Z', a1, a2, a3⟩ := s_addSumd (b := b) hF k2 (by rw [List.length_append, words_len]; simp; omega)
    obtain ⟨qz, gz⟩ := Fr_o (b := b) (X := Z) hF
    refine ⟨Z', ?_, a2, k3.tr a3⟩
    unfold fSl_writeWords
    rw [bs h.g2, bs gs, bs (c_tableOf hi (by omega) (by omega))]
    dsimp only
    rw [bs h.g1, bs h.g2, bs gp, bs e1, bs h1.g4, bs gp1, e0, bs e2, bs k1, bs gz, bs a1]
  · rintro k q hk ⟨Z, rfl, i1, i2⟩
    have h' := h.ch i2 hnp
    have hS' := hS.ch i2 hns
    obtain ⟨qz, gz⟩ := Fr_o (b := b) (X := Z) hF
    have htn : tn f = 8 := by rcases hf with rfl | rfl <;> rfl
    have g := sl_get (b := b) (X := Z) hp (t := f) (k := a + k) (by omega) (by omega) (by rw [htn]; omega)
    rw [hS'.2.2.2.2.2 f (a + k) (by omega) (by omega) (by rw [htn]; omega), ← hdig k hk] at g
    obtain ⟨Z2, e3, f3, c3⟩ := s_addWd (b := b) hF i1 (by simp only [List.length_append, List.length_cons, List.length_nil, hlen]; omega) (nI (wN V k))
    refine ⟨(nI (k + 1), wX b Z2), ?_, Z2, rfl, ?_, i2.tr c3⟩
    · unfold fSl_writeWords_L34
      dsimp only
      rw [bs h'.g4, if_neg (nI_ge hk (by omega)), bs h'.g3, Option.bind_some, nI_add, bs g]
      dsimp only
      rw [bs gz, bs e3, nI_1]
    · rw [range_fm_succ]
      have e4 : [nI u, nI f] ++ nI (2 * c) :: ((List.range k).flatMap (fun k => wd (nI (wN V k))) ++ wd (nI (wN V k))) = [nI u, nI f] ++ nI (2 * c) :: (List.range k).flatMap (fun k => wd (nI (wN V k))) ++ wd (nI (wN V k)) := by simp
      rw [e4]
      exact f3
  · rintro q ⟨Z, rfl, i1, i2⟩
    have h' := h.ch i2 hnp
    refine ⟨_, ?_, Z, rfl, i1, i2⟩
    unfold fSl_writeWords_L34
    dsimp only
    rw [bs h'.g4, if_pos (nI_le (Nat.le_refl _) (by omega))]
theorem ref_lt (f a c v : Nat) : refN f a c v < 4 := by
  unfold refN
  repeat' split
  all_goals omega
theorem c_writeAnswer {p' : Nat} (hi : i < 6) (hV : SlV al ln d off ls tb) (hS : SlC X i al ln d off ls tb) (h : JobN X o u f a c v) (hF : isFr p) (hF' : isFr p') (hne : p' ≠ p) (hL : FrL X p (reqL u f a c v)) : ∃ Y, fSl_writeAnswer (b + (2 + 5 * i)) (b + o) (b + p) (b + p') (wX b X) = some (wX b Y) ∧ FrL Y p' (ansL u f a c v (refN f a c v) (svN f a c v tb)) ∧ Ch [p', p' + 1] X Y := by
  have hp := isSl_of hi
  have hu := h.2.2.1
  have hf1 := h.2.2.2.1
  have hf := h.2.2.2.2.1
  have ha := h.2.2.2.2.2.1
  have hc := h.2.2.2.2.2.2.1
  have hnp := jo_fr h.1 hF'
  have hrl := ref_lt f a c v
  obtain ⟨qj, gj, -⟩ := jo_o (b := b) h.1
  obtain ⟨qs, gs⟩ := Sl_o (b := b) (X := X) hp
  obtain ⟨qp, gp⟩ := Fr_o (b := b) (X := X) hF'
  by_cases hr : refN f a c v = 0
  · by_cases k1 : f = 1 ∨ f = 2
    · have hac : a + c ≤ 16 := by
        unfold refN at hr
        rw [if_pos (by omega)] at hr
        split at hr
        · omega
        · split at hr
          · omega
          · split at hr <;> omega
      obtain ⟨Y, e1, e2, e3⟩ := c_writeBits (b := b) hi hV hS h k1 hac hF'
      refine ⟨Y, ?_, ?_, e3⟩
      · unfold fSl_writeAnswer
        rw [bs gj, bs (s_refusal h)]
        dsimp only
        rw [if_pos (by rw [hr]; rfl), bs h.g2, if_pos (by rw [q_1 (by omega), q_2 (by omega)]; exact k1), bs gs, bs e1]
      · unfold ansL svN
        rw [if_neg (fun q => q hr), if_pos k1, if_pos k1]
        exact e2
    · by_cases k2 : f = 3 ∨ f = 4
      · have hac : c ≤ 4 ∧ a + c ≤ 8 := by
          unfold refN at hr
          rw [if_neg (by omega), if_pos (by omega)] at hr
          split at hr
          · omega
          · split at hr
            · omega
            · split at hr <;> omega
        obtain ⟨Y, e1, e2, e3⟩ := c_writeWords (b := b) hi hV hS h k2 hac.1 hac.2 hF'
        refine ⟨Y, ?_, ?_, e3⟩
        · unfold fSl_writeAnswer
          rw [bs gj, bs (s_refusal h)]
          dsimp only
          rw [if_pos (by rw [hr]; rfl), bs h.g2, if_neg (by rw [q_1 (by omega), q_2 (by omega)]; exact k1), if_pos (by rw [q_3 (by omega), q_4 (by omega)]; exact k2), bs gs, bs e1]
        · unfold ansL svN
          rw [if_neg (fun q => q hr), if_neg k1, if_pos k2, if_neg k1, if_pos k2]
          exact e2
      · by_cases k3 : f = 15 ∨ f = 16
        · obtain ⟨Y, e1, f1, c1⟩ := s_begin (b := b) (X := X) hF' (nI u) (nI f)
          rw [b8_id (B8_nI (by omega)), b8_id (B8_nI (by omega))] at f1
          have h1 := h.ch c1 hnp
          obtain ⟨qp1, gp1⟩ := Fr_o (b := b) (X := Y) hF'
          obtain ⟨Y2, e2, f2, c2⟩ := s_addWd (b := b) hF' f1 (by simp) (nI a)
          have h2 := h1.ch c2 hnp
          obtain ⟨qp2, gp2⟩ := Fr_o (b := b) (X := Y2) hF'
          obtain ⟨Y3, e3, f3, c3⟩ := s_addWd (b := b) hF' f2 (by simp [wd_len]) (nI c)
          obtain ⟨qp3, gp3⟩ := Fr_o (b := b) (X := Y3) hF'
          obtain ⟨Y4, e4, f4, c4⟩ := s_addSumd (b := b) hF' f3 (by simp [wd_len])
          refine ⟨Y4, ?_, ?_, ((c1.tr c2).tr c3).tr c4⟩
          · unfold fSl_writeAnswer
            rw [bs gj, bs (s_refusal h)]
            dsimp only
            rw [if_pos (by rw [hr]; rfl), bs h.g2, if_neg (by rw [q_1 (by omega), q_2 (by omega)]; exact k1), if_neg (by rw [q_3 (by omega), q_4 (by omega)]; exact k2), if_neg (by rw [q_5 (by omega), q_6 (by omega), q_7 (by omega), q_8 (by omega), q_9 (by omega), q_10 (by omega), q_11 (by omega), q_12 (by omega), q_13 (by omega), q_14 (by omega)]; omega), if_pos (by rw [q_15 (by omega), q_16 (by omega)]; exact k3), bs h.g1, bs h.g2, bs gp, bs e1, bs h1.g3, bs gp1, bs e2, bs h2.g4, bs gp2, bs e3, bs gp3, bs e4]
          · unfold ansL
            rw [if_neg (fun q => q hr), if_neg k1, if_neg k2, if_pos k3, ← List.append_assoc]
            exact f4
        · obtain ⟨Y, e1, e2, e3⟩ := s_copy (b := b) (X := X) hF' hF hne hL
          refine ⟨Y, ?_, ?_, e3⟩
          · unfold fSl_writeAnswer
            rw [bs gj, bs (s_refusal h)]
            dsimp only
            rw [if_pos (by rw [hr]; rfl), bs h.g2, if_neg (by rw [q_1 (by omega), q_2 (by omega)]; exact k1), if_neg (by rw [q_3 (by omega), q_4 (by omega)]; exact k2)]
            by_cases kk : nI f = 5 ∨ nI f = 6 ∨ nI f = 7 ∨ nI f = 8 ∨ nI f = 9 ∨ nI f = 10 ∨ nI f = 11 ∨ nI f = 12 ∨ nI f = 13 ∨ nI f = 14
            · rw [if_pos kk, bs gp, bs e1]
            · rw [if_neg kk, if_neg (by rw [q_15 (by omega), q_16 (by omega)]; exact k3), bs gp, bs e1]
          · unfold ansL
            rw [if_neg (fun q => q hr), if_neg k1, if_neg k2, if_neg k3]
            exact e2
  · obtain ⟨Y, e1, f1, c1⟩ := s_begin (b := b) (X := X) hF' (nI u) (nI (f + 128))
    rw [b8_id (B8_nI (by omega)), b8_id (B8_nI (by omega))] at f1
    obtain ⟨qp1, gp1⟩ := Fr_o (b := b) (X := Y) hF'
    obtain ⟨Y2, e2, f2, c2⟩ := s_addByte (b := b) hF' f1 (by simp) (nI (refN f a c v))
    rw [b8_id (B8_nI (by omega))] at f2
    obtain ⟨qp2, gp2⟩ := Fr_o (b := b) (X := Y2) hF'
    obtain ⟨Y3, e3, f3, c3⟩ := s_addSumd (b := b) hF' f2 (by simp)
    have e0 : nI f + (128 : Int32) = nI (f + 128) := nI_add f 128
    refine ⟨Y3, ?_, ?_, (c1.tr c2).tr c3⟩
    · unfold fSl_writeAnswer
      rw [bs gj, bs (s_refusal h)]
      dsimp only
      rw [if_neg (by rw [q_0 (by omega)]; exact hr), bs h.g1, bs h.g2, bs gp, e0, bs e1, bs gp1, bs e2, bs gp2, bs e3]
    · unfold ansL
      rw [if_pos hr]
      exact f3
end AN2
