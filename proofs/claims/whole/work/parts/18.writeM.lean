/-! A request's frame and what is wrong with it, the model's side. -/
section WM
variable {b : Nat} {X : Xs} {w u f a c v : Nat} {L : List Int32}
theorem m_word (S : Ws) (hv : v < 2 ^ 64) {k : Nat} (hk : k < 2 ^ 31) : fMo_word (lN v) (nI k) S = some (nI (wN v k), S) := by
  unfold fMo_word
  rw [wv_m hv hk]
theorem m_addBits (hw : w < 4) (hv : v < 2 ^ 64) (hc : c ≤ 16) (hL : FrM X w L) (hl : L.length + (1 + (c + 7) / 8) ≤ 41) : ∃ Y, fMo_addBits (b + 56) (nI w) (lN v) (nI c) (wX b X) = some (wX b Y) ∧ FrM Y w (L ++ bitsL v c) ∧ ChM w X Y := by
  obtain ⟨Y1, e1, f1, c1⟩ := s_add (b := b) hw hL (by omega) (nI ((c + 7) / 8))
  have key := lp_inv (step := fMo_addBits_L20 (b + 56) (nI w) (lN v) (nI c)) (Q := fun W => ∃ Y, W = wX b Y ∧ FrM Y w (L ++ bitsL v c) ∧ ChM w X Y) (fun k q => ∃ Y, q = (nI k, wX b Y) ∧ FrM Y w (L ++ nI ((c + 7) / 8) :: (List.range k).map (fun j => nI (bN v c j))) ∧ ChM w X Y) ((c + 7) / 8) ?_ ?_ 1000 ((0 : Int32), wX b Y1) (by omega) ⟨_, rfl, by simpa using f1, c1⟩
  · obtain ⟨W, k1, Y, rfl, k2, k3⟩ := key
    refine ⟨Y, ?_, k2, k3⟩
    unfold fMo_addBits
    rw [bs mo_o, n_div8 hc, bs e1, bs k1]
  · rintro k q hk ⟨Y, rfl, i1, i2⟩
    have h1 : ¬ nI ((c + 7) / 8) ≤ nI k := nI_ge hk (by omega)
    obtain ⟨Z, e3, f3, c3⟩ := s_add (b := b) hw i1 (by simp; omega) (nI (bN v c k))
    refine ⟨(nI (k + 1), wX b Z), ?_, Z, rfl, ?_, i2.tr c3⟩
    · unfold fMo_addBits_L20
      dsimp only
      rw [n_div8 hc, if_neg h1, bs (by_m hv hc (show 8 * k < c by omega)), bs mo_o, bs e3, nI_1]
    · rw [range_map_succ]
      simpa using f3
  · rintro q ⟨Y, rfl, i1, i2⟩
    have h1 : nI ((c + 7) / 8) ≤ nI ((c + 7) / 8) := nI_le (Nat.le_refl _) (by omega)
    refine ⟨_, ?_, Y, rfl, i1, i2⟩
    unfold fMo_addBits_L20
    dsimp only
    rw [n_div8 hc, if_pos h1]
theorem m_addWords (hw : w < 4) (hv : v < 2 ^ 64) (hc : c ≤ 16) (hL : FrM X w L) (hl : L.length + (1 + 2 * c) ≤ 41) : ∃ Y, fMo_addWords (b + 56) (nI w) (lN v) (nI c) (wX b X) = some (wX b Y) ∧ FrM Y w (L ++ wordsL v c) ∧ ChM w X Y := by
  obtain ⟨Y1, e1, f1, c1⟩ := s_add (b := b) hw hL (by omega) (nI (2 * c))
  have e0 : (2 : Int32) * nI c = nI (2 * c) := pk_mul 2 c
  have hlen : ∀ n, ((List.range n).flatMap (fun k => wd (nI (wN v k)))).length = 2 * n := by
    intro n
    have := words_len v n
    simp [wordsL] at this
    simp only [List.length_flatMap]
    omega
  have key := lp_inv (step := fMo_addWords_L12 (b + 56) (nI w) (lN v) (nI c)) (Q := fun W => ∃ Y, W = wX b Y ∧ FrM Y w (L ++ wordsL v c) ∧ ChM w X Y) (fun k q => ∃ Y, q = (nI k, wX b Y) ∧ FrM Y w (L ++ nI (2 * c) :: (List.range k).flatMap (fun k => wd (nI (wN v k)))) ∧ ChM w X Y) c ?_ ?_ 1000 ((0 : Int32), wX b Y1) (by omega) ⟨_, rfl, by simpa using f1, c1⟩
  · obtain ⟨W, k1, Y, rfl, k2, k3⟩ := key
    refine ⟨Y, ?_, k2, k3⟩
    unfold fMo_addWords
    rw [bs mo_o, e0, bs e1, bs k1]
  · rintro k q hk ⟨Y, rfl, i1, i2⟩
    have h1 : ¬ nI c ≤ nI k := nI_ge hk (by omega)
    obtain ⟨Z, e3, f3, c3⟩ := s_addW (b := b) hw i1 (by rw [List.length_append, List.length_cons, hlen]; omega) (v := nI (wN v k)) ⟨_, wN_lt v k, rfl⟩
    refine ⟨(nI (k + 1), wX b Z), ?_, Z, rfl, ?_, i2.tr c3⟩
    · unfold fMo_addWords_L12
      dsimp only
      rw [if_neg h1, bs (m_word _ hv (show k < 2 ^ 31 by omega))]
      dsimp only
      rw [bs mo_o, bs e3, nI_1]
    · rw [range_fm_succ]
      have e4 : L ++ nI (2 * c) :: ((List.range k).flatMap (fun k => wd (nI (wN v k))) ++ wd (nI (wN v k))) = L ++ nI (2 * c) :: (List.range k).flatMap (fun k => wd (nI (wN v k))) ++ wd (nI (wN v k)) := by simp
      rw [e4]
      exact f3
  · rintro q ⟨Y, rfl, i1, i2⟩
    have h1 : nI c ≤ nI c := nI_le (Nat.le_refl _) (by omega)
    refine ⟨_, ?_, Y, rfl, i1, i2⟩
    unfold fMo_addWords_L12
    dsimp only
    rw [if_pos h1]
theorem m_counted (hf : f < 128) : (if nI f < (1 : Int32) then fMo_writeRequest_J17_1 (nI f) else if nI f ≤ (4 : Int32) then some (1 : Int32) else fMo_writeRequest_J17_1 (nI f)) = some (if (1 ≤ f ∧ f ≤ 4) ∨ f = 15 ∨ f = 16 then 1 else 0) := by
  unfold fMo_writeRequest_J17_1
  simp (disch := omega) only [l_1, le_4, q_15, q_16]
  by_cases h1 : f < 1
  · have h2 : ¬ f = 15 := by omega
    have h3 : ¬ f = 16 := by omega
    have h4 : ¬ ((1 ≤ f ∧ f ≤ 4) ∨ f = 15 ∨ f = 16) := by omega
    rw [if_pos h1, if_neg h2, if_neg h3, if_neg h4]
  · rw [if_neg h1]
    by_cases h2 : f ≤ 4
    · rw [if_pos h2, if_pos (by omega)]
    · rw [if_neg h2]
      by_cases h3 : f = 15
      · rw [if_pos h3, if_pos (by omega)]
      · rw [if_neg h3]
        by_cases h4 : f = 16
        · rw [if_pos h4, if_pos (by omega)]
        · rw [if_neg h4, if_neg (by omega)]
theorem m_worded (hf : f < 128) : (if nI f = (5 : Int32) then some (1 : Int32) else if nI f = (6 : Int32) then some (1 : Int32) else if nI f = (22 : Int32) then some (1 : Int32) else if nI f = (8 : Int32) then some (1 : Int32) else some (0 : Int32)) = some (if f = 5 ∨ f = 6 ∨ f = 22 ∨ f = 8 then 1 else 0) := by
  simp (disch := omega) only [q_5, q_6, q_22, q_8]
  by_cases h1 : f = 5
  · rw [if_pos h1, if_pos (by omega)]
  · rw [if_neg h1]
    by_cases h2 : f = 6
    · rw [if_pos h2, if_pos (by omega)]
    · rw [if_neg h2]
      by_cases h3 : f = 22
      · rw [if_pos h3, if_pos (by omega)]
      · rw [if_neg h3]
        by_cases h4 : f = 8
        · rw [if_pos h4, if_pos (by omega)]
        · rw [if_neg h4, if_neg (by omega)]
end WM
