/-! A request, and a poll, take their answer: the program's side. -/
section RD
variable {b : Nat} {X : Xs} {o p u f a c v sv r : Nat} {L : List Int32}
theorem at4 {x y z w : Int32} {n : Nat} {B : List Int32} (h : n < 65536) : wAt ([x, y] ++ ([z, w] ++ (wd (nI n) ++ B))) 4 = nI n := wAt_mid (A := [x, y, z, w]) h
theorem at6 {x y z w s t : Int32} {n : Nat} {B : List Int32} (h : n < 65536) : wAt ([x, y] ++ ([z, w] ++ ([s, t] ++ (wd (nI n) ++ B)))) 6 = nI n := wAt_mid (A := [x, y, z, w, s, t]) h
theorem at3 {x y z : Int32} {n : Nat} {B : List Int32} (h : n < 65536) : wAt ([x, y, z] ++ (wd (nI n) ++ B)) 3 = nI n := wAt_mid (A := [x, y, z]) h
theorem ansL_bad (hr : r ≠ 0) : ansL u f a c v r sv = sumd [nI u, nI (f + 128), nI r] := by
  unfold ansL; rw [if_pos hr]
theorem ansL_b (hf : f = 1 ∨ f = 2) : ansL u f a c v 0 sv = sumd ([nI u, nI f] ++ bitsL sv c) := by
  unfold ansL; rw [if_neg (by omega), if_pos hf]
theorem ansL_w (hf : f = 3 ∨ f = 4) : ansL u f a c v 0 sv = sumd ([nI u, nI f] ++ wordsL sv c) := by
  unfold ansL; rw [if_neg (by omega), if_neg (by omega), if_pos hf]
theorem ansL_c (hf : f = 15 ∨ f = 16) : ansL u f a c v 0 sv = sumd ([nI u, nI f] ++ (wd (nI a) ++ wd (nI c))) := by
  unfold ansL; rw [if_neg (by omega), if_neg (by omega), if_neg (by omega), if_pos hf]
theorem ansL_r (h1 : ¬ (f = 1 ∨ f = 2)) (h2 : ¬ (f = 3 ∨ f = 4)) (h3 : ¬ (f = 15 ∨ f = 16)) : ansL u f a c v 0 sv = reqL u f a c v := by
  unfold ansL; rw [if_neg (by omega), if_neg h1, if_neg h2, if_neg h3]
theorem reqL_22 : reqL u 22 a c v = sumd ([nI u, nI 22] ++ (wd (nI a) ++ wd (nI (wN v 0)) ++ wd (nI (wN v 1)))) := rfl
theorem reqL_5 (h : f = 5 ∨ f = 6 ∨ f = 8) : reqL u f a c v = sumd ([nI u, nI f] ++ (wd (nI a) ++ wd (nI (wN v 0)))) := by
  unfold reqL bodyL
  rw [if_neg (by omega), if_pos h]
theorem sumd_1 {x y : Int32} {M : List Int32} : (sumd ([x, y] ++ M)).getD 1 0 = y := rfl
theorem sumd_len {M : List Int32} : (sumd M).length = M.length + 2 := by unfold sumd; rw [List.length_append]; rfl
theorem sumd_4 {x y : Int32} {n m : Nat} {B : List Int32} (h : n < 65536) : wAt (sumd ([x, y] ++ (wd (nI m) ++ (wd (nI n) ++ B)))) 4 = nI n := by
  unfold sumd
  generalize crcL ([x, y] ++ (wd (nI m) ++ (wd (nI n) ++ B))) = z
  have e : [x, y] ++ (wd (nI m) ++ (wd (nI n) ++ B)) ++ [z &&& 255, (z >>> ((8 : Int32) &&& 31)) &&& 255] = ([x, y] ++ wd (nI m)) ++ (wd (nI n) ++ (B ++ [z &&& 255, (z >>> ((8 : Int32) &&& 31)) &&& 255])) := by simp only [List.append_assoc]
  rw [e]
  exact wAt_mid (A := [x, y] ++ wd (nI m)) h
theorem sumd_6 {x y : Int32} {n m l : Nat} {B : List Int32} (h : n < 65536) : wAt (sumd ([x, y] ++ (wd (nI m) ++ (wd (nI l) ++ (wd (nI n) ++ B))))) 6 = nI n := by
  unfold sumd
  generalize crcL ([x, y] ++ (wd (nI m) ++ (wd (nI l) ++ (wd (nI n) ++ B)))) = z
  have e : [x, y] ++ (wd (nI m) ++ (wd (nI l) ++ (wd (nI n) ++ B))) ++ [z &&& 255, (z >>> ((8 : Int32) &&& 31)) &&& 255] = ([x, y] ++ wd (nI m) ++ wd (nI l)) ++ (wd (nI n) ++ (B ++ [z &&& 255, (z >>> ((8 : Int32) &&& 31)) &&& 255])) := by simp only [List.append_assoc]
  rw [e]
  exact wAt_mid (A := [x, y] ++ wd (nI m) ++ wd (nI l)) h
theorem c_read (h : isRe X o) (hj : JobN X o u f a c v) (hF : isFr p) (hr : refN f a c v = 0) (hs : svOK f c v sv) (hL : FrL X p (ansL u f a c v 0 sv)) : fRe_read (b + o) (b + p) (wX b X) = some (lN sv, wX b X) := by
  have hk := ref0 hr
  have hf := hj.2.2.2.2.1
  have w0 := wN_lt v 0
  have w1 := wN_lt v 1
  have hc := hj.2.2.2.2.2.2.1
  obtain ⟨qr, gr⟩ := re_o (b := b) h
  obtain ⟨qp, gp⟩ := Fr_o (b := b) (X := X) hF
  have g2 : gI (wX b X) (b + o) [4] 2 = some (nI f) := by rw [re_i2 h, hj.2.1.2.1]
  unfold fRe_read
  rw [bs g2]
  have c1 : (nI f = 1 ∨ nI f = 2) = (f = 1 ∨ f = 2) := by rw [q_1 (by omega), q_2 (by omega)]
  have c2 : (nI f = 3 ∨ nI f = 4) = (f = 3 ∨ f = 4) := by rw [q_3 (by omega), q_4 (by omega)]
  have c3 : (nI f = 22) = (f = 22) := q_22 (by omega)
  by_cases k1 : f = 1 ∨ f = 2
  · rw [ansL_b k1] at hL
    rw [if_pos (by rw [c1]; exact k1), bs gr, bs (c_readBits h hj hF (hs.2.1 k1) hL)]
  · rw [if_neg (by rw [c1]; exact k1)]
    by_cases k2 : f = 3 ∨ f = 4
    · rw [ansL_w k2] at hL
      rw [if_pos (by rw [c2]; exact k2), bs gr, bs (c_readWords h hj hF (hs.2.2.1 k2).2 (hs.2.2.1 k2).1 hL)]
    · rw [if_neg (by rw [c2]; exact k2)]
      by_cases k3 : f = 22
      · subst k3
        rw [ansL_r (by omega) (by omega) (by omega), reqL_22] at hL
        have e : [nI u, nI 22] ++ (wd (nI a) ++ wd (nI (wN v 0)) ++ wd (nI (wN v 1))) = [nI u, nI 22] ++ (wd (nI a) ++ (wd (nI (wN v 0)) ++ (wd (nI (wN v 1)) ++ []))) := by simp only [List.append_assoc, List.append_nil]
        rw [e] at hL
        have h4 := s_wordAt' (b := b) hF hL 4 (by rw [sumd_len]; simp [wd_len])
        have h6 := s_wordAt' (b := b) hF hL 6 (by rw [sumd_len]; simp [wd_len])
        rw [sumd_4 w0] at h4
        rw [sumd_6 w1] at h6
        have h4 : fFr_wordAt (b + p) (4 : Int32) (wX b X) = _ := h4
        have h6 : fFr_wordAt (b + p) (6 : Int32) (wX b X) = _ := h6
        rw [if_pos (by rw [c3]), bs gp, bs h4]
        dsimp only
        rw [bs gp, bs h6]
        dsimp only
        rw [nI_l (by omega), nI_l (by omega), show (16 : Int32) = nI 16 from rfl, wb_shl _ (by omega), wb_or (by omega) (by omega)]
        have ho := Nat.two_pow_add_eq_or_of_lt (i := 16) (b := wN v 0) (by omega) (wN v 1)
        rw [Nat.or_comm, Nat.mul_comm (wN v 1), ← ho, hs.2.2.2.2.1 rfl]
        have e : 2 ^ 16 * wN v 1 + wN v 0 = wN v 0 + 65536 * wN v 1 := by omega
        rw [e]
      · rw [if_neg (by rw [c3]; exact k3)]
        have hh : ∃ n, n < 65536 ∧ sv = n ∧ ∃ M, ansL u f a c v 0 sv = sumd ([nI u, nI f] ++ (wd (nI a) ++ (wd (nI n) ++ M))) := by
          by_cases k4 : f = 15 ∨ f = 16
          · exact ⟨c, by omega, hs.2.2.2.1 k4, [], by rw [ansL_c k4, List.append_nil]⟩
          · exact ⟨wN v 0, w0, hs.2.2.2.2.2 (by omega), [], by rw [ansL_r k1 k2 k4, reqL_5 (by omega), List.append_nil]⟩
        obtain ⟨n, hn, rfl, M, hM⟩ := hh
        rw [hM] at hL
        have h4 := s_wordAt' (b := b) hF hL 4 (by rw [sumd_len]; simp [wd_len]; omega)
        rw [sumd_4 hn] at h4
        have h4 : fFr_wordAt (b + p) (4 : Int32) (wX b X) = _ := h4
        rw [bs gp, bs h4]
        dsimp only
        rw [nI_l (by omega)]
theorem ans_1 (hr : refN f a c v = 0) : (ansL u f a c v 0 sv).getD 1 0 = nI f ∧ 1 < (ansL u f a c v 0 sv).length := by
  have hk := ref0 hr
  by_cases k1 : f = 1 ∨ f = 2
  · rw [ansL_b k1]; exact ⟨rfl, by rw [sumd_len]; simp⟩
  · by_cases k2 : f = 3 ∨ f = 4
    · rw [ansL_w k2]; exact ⟨rfl, by rw [sumd_len]; simp⟩
    · by_cases k3 : f = 15 ∨ f = 16
      · rw [ansL_c k3]; exact ⟨rfl, by rw [sumd_len]; simp⟩
      · rw [ansL_r k1 k2 k3]; exact ⟨rfl, by unfold reqL; rw [sumd_len]; simp⟩
theorem c_takeR (h : isRe X o) (hj : JobN X o u f a c v) (hF : isFr p) (hr : r = refN f a c v) (hs : r = 0 → svOK f c v sv) (hL : FrL X p (ansL u f a c v r sv)) {now : Int32} : fRe_take (b + o) (b + p) now (wX b X) = some (wX b (if r = 0 then (X.sI o 6 1).sJ o 8 (lN sv) else (X.sI o 6 2).sI o 7 (nI r))) := by
  have hf := hj.2.2.2.2.1
  obtain ⟨qp, gp⟩ := Fr_o (b := b) (X := X) hF
  unfold fRe_take
  by_cases e : r = 0
  · rw [e] at hL hr
    have h1 := s_byteAt' (b := b) hF hL 1 (ans_1 hr.symm).2
    rw [(ans_1 hr.symm).1] at h1
    have h1 : fFr_byteAt (b + p) (1 : Int32) (wX b X) = _ := h1
    rw [bs gp, bs h1]
    dsimp only
    rw [if_pos (show nI f < (128 : Int32) from nI_ltI (b := 128) (by omega) (by decide) |>.mpr hf), bs (re_p6 h), if_pos e]
    have h' : isRe (X.sI o 6 1) o := h
    have hj' : JobN (X.sI o 6 1) o u f a c v := by
      obtain ⟨j1, ⟨j2, j3, j4, j5, j6⟩, j7⟩ := hj
      refine ⟨j1, ⟨?_, ?_, ?_, ?_, j6⟩, j7⟩
      all_goals (rw [sI_I, up2_k (by decide)]; assumption)
    have ho := h.1
    have hp2 : p + 1 < 92 := by unfold isFr at hF; omega
    have hL' : FrL (X.sI o 6 1) p (ansL u f a c v 0 sv) := hL.of (up2_row (by omega)) (up2_row (by omega))
    obtain ⟨qr, gr⟩ := re_o (b := b) h'
    rw [bs gr, bs (c_read h' hj' hF hr.symm (hs e) hL')]
    dsimp only
    rw [bs (re_p8 h')]
  · rw [ansL_bad e] at hL
    have h1 := s_byteAt' (b := b) hF hL 1 (by rw [sumd_len]; simp)
    have h2 := s_byteAt' (b := b) hF hL 2 (by rw [sumd_len]; simp)
    have h1 : fFr_byteAt (b + p) (1 : Int32) (wX b X) = some (nI (f + 128), wX b X) := h1
    have h2 : fFr_byteAt (b + p) (2 : Int32) (wX b X) = some (nI r, wX b X) := h2
    obtain ⟨qr, gr⟩ := re_o (b := b) h
    have h' : isRe (X.sI o 6 2) o := h
    rw [bs gp, bs h1]
    dsimp only
    rw [if_neg (show ¬ nI (f + 128) < (128 : Int32) from fun q => by have := (nI_ltI (b := 128) (by omega) (by decide)).mp q; omega), bs gp, bs h2]
    dsimp only
    rw [bs gr, if_neg e]
    unfold fRe_refuse
    rw [bs (re_p6 h), bs (re_p7 h'), Option.bind_some]
theorem c_takeP (h : isPo X o) (hF : isFr p) {k : Nat} (hk : X.I o 6 = nI k) (hr : refN f a 1 v = 0) (hf : f = 3 ∨ f = 4) (hs : svOK f 1 v sv) (hL : FrL X p (ansL u f a 1 v 0 sv)) {now : Int32} {S' : Ws} (hkeep : fHi_keep (b + 51) now (nI k) (nI sv) (wX b X) = some S') : fPo_take (b + o) (b + p) now (wX b X) = some S' := by
  obtain ⟨qp, gp⟩ := Fr_o (b := b) (X := X) hF
  have h1 := s_byteAt' (b := b) hF hL 1 (ans_1 hr).2
  rw [(ans_1 hr).1] at h1
  have h1 : fFr_byteAt (b + p) (1 : Int32) (wX b X) = _ := h1
  have hs2 := (hs.2.2.1 hf).1
  have hw : wN sv 0 = sv := by
    unfold wN
    show sv / 1 % 65536 = sv
    rw [Nat.div_one, Nat.mod_eq_of_lt hs2]
  have hL3 : FrL X p (sumd ([nI u, nI f, nI 2] ++ (wd (nI sv) ++ []))) := by
    rw [ansL_w hf] at hL
    have e : [nI u, nI f] ++ wordsL sv 1 = [nI u, nI f, nI 2] ++ (wd (nI (wN sv 0)) ++ []) := rfl
    rw [e, hw] at hL
    exact hL
  have h3 := s_wordAt' (b := b) hF hL3 3 (by rw [sumd_len]; simp [wd_len])
  have e3 : wAt (sumd ([nI u, nI f, nI 2] ++ (wd (nI sv) ++ []))) 3 = nI sv := by
    unfold sumd
    generalize crcL ([nI u, nI f, nI 2] ++ (wd (nI sv) ++ [])) = z
    have e : [nI u, nI f, nI 2] ++ (wd (nI sv) ++ []) ++ [z &&& 255, (z >>> ((8 : Int32) &&& 31)) &&& 255] = [nI u, nI f, nI 2] ++ (wd (nI sv) ++ ([] ++ [z &&& 255, (z >>> ((8 : Int32) &&& 31)) &&& 255])) := by simp only [List.append_assoc]
    rw [e]
    exact wAt_mid (A := [nI u, nI f, nI 2]) hs2
  rw [e3] at h3
  have h3 : fFr_wordAt (b + p) (3 : Int32) (wX b X) = _ := h3
  have g6 : gI (wX b X) (b + o) [3] 6 = some (nI k) := by rw [po_i6 h, hk]
  unfold fPo_take
  rw [bs gp, bs h1]
  dsimp only
  rw [if_neg (show ¬ (128 : Int32) ≤ nI f by rw [ge_128 (by omega)]; omega), bs (po_r7 h), bs g6, bs gp, bs h3]
  dsimp only
  rw [Option.bind_some, bs hi_o, bs hkeep]
end RD
