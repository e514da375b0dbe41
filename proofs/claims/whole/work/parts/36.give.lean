/-! A job that gets no answer is given up; a line sends. -/
section GU
variable {b t nr np j i : Nat} {E : Nat → Nat → Nat} {al ln d off ls : Nat → Nat} {tb : Nat → Nat → Nat → Nat} {cur : Nat → Option Nat} {q : Nat → List Nat} {X Y X2 Y2 : Xs}
theorem m_isB (hji : JQ E i X Y) (hi : i < 68) : fMo_isBroadcast (b + 56) (nI i) (wX b Y) = some (if E 1 i = 0 then 1 else 0, wX b Y) := by
  have hu := hji.1.2.2.1
  unfold fMo_isBroadcast
  by_cases h : i < 64
  · have a66 : aI (wX b Y) (b + 66) 0 (nI i) = some (nI (E 1 i)) := by rw [mo_a66, bs (ax_of h (by decide) rfl), (hji.2.2.1 h).2.1]
    rw [if_neg (by rw [ge_64 (by omega)]; omega), bs mo_r11, Option.bind_some, bs a66]
    by_cases e : E 1 i = 0
    · rw [if_pos (by rw [q_0 (by omega)]; exact e), bs bz_1, if_pos e]
    · rw [if_neg (by rw [q_0 (by omega)]; exact e), bs bz_0, if_neg e]
  · have := (hji.2.2.2 (by omega)).2.2.2.2.2.2.2.1
    rw [if_pos (by rw [ge_64 (by omega)]; omega), bs bz_0, if_neg (by omega)]
theorem give_step (hI : Inv b t nr np E al ln d off ls tb cur q X Y) (hj : j < 2) (hc : cur j = some i) : ∃ X2 Y2, fLi_giveUp (b + (33 + 8 * j)) (wX b X) = some (wX b X2) ∧ fMo_goOn_J76_1 (b + 56) (nI j) (if E 1 i = 0 then 1 else 0) (nI i) (wX b Y) = some (wX b Y2) ∧ Inv b t nr np E al ln d off ls tb (stF cur j none) q X2 Y2 ∧ CK X X2 ∧ MK Y Y2 := by
  obtain ⟨hli, hji, hi68, ho⟩ := hI.live hj hc
  have hL := hI.2.2.2.1 j hj
  rw [hc] at hL
  have hlin := li_of hj
  obtain ⟨ql, gl⟩ := Li_o (b := b) (X := X) hlin
  have ej : ax (nI j) 2 = some j := ax_of hj (by decide) rfl
  have h5 : gR (wX b X) (b + (33 + 8 * j)) [2] 5 = some (some (b + E 0 i)) := by rw [Li_q5 hlin, hL.2.2.1.1]; rfl
  have hjob : JobN (relX j X) (E 0 i) (E 1 i) (E 2 i) (E 3 i) (E 4 i) (E 5 i) := hji.1.ch relX_ch (by simp; omega)
  obtain ⟨qj, gj, gk⟩ := jo_o (b := b) hjob.1
  have pre : ∀ S', (if (if E 1 i = 0 then (1 : Int32) else 0) = 0 then (if qj.1 = 3 then fPo_goUnanswered (b + E 0 i) (wX b (relX j X)) else fRe_goUnanswered (b + E 0 i) (wX b (relX j X))) else some (wX b (relX j X))) = some S' → fLi_giveUp (b + (33 + 8 * j)) (wX b X) = some S' := by
    intro S' hS'
    unfold fLi_giveUp
    rw [bs h5, bs gl, bs (s_release hj), oc_some, bs gj, bs (s_isB hjob)]
    dsimp only
    rw [bs gj]
    by_cases e : E 1 i = 0
    · rw [if_pos e, if_neg (by decide)] at hS' ⊢
      exact hS'
    · rw [if_neg e, if_pos rfl] at hS' ⊢
      rw [bs hS']
  let Y1 := Y.sI 82 j (-1)
  have hY1 : Ch [82] Y Y1 := Ch.rf.sI (by simp)
  have y1_82 : Y1.I 82 j = -1 := by
    show (Y.sI 82 j (-1)).I 82 j = _
    rw [sI_I, up2_s]
  have y1_o : ∀ k, k ≠ j → Y1.I 82 k = Y.I 82 k ∧ Y1.I 85 k = Y.I 85 k := by
    intro k hk
    show (Y.sI 82 j (-1)).I 82 k = _ ∧ (Y.sI 82 j (-1)).I 85 k = _
    rw [sI_I, up2_k hk, up2_o (by decide)]
    exact ⟨rfl, rfl⟩
  have hbusy : ∀ S', (if (if E 1 i = 0 then (1 : Int32) else 0) = 0 then if (64 : Int32) ≤ nI i then some (wX b Y1) else (gR (wX b Y1) (b + 56) [8] 16).bind fun r22 => (r22).bind fun a23 => (sI (wX b Y1) a23 0 (nI i) (2 : Int32)).bind fun S24 => (gR S24 (b + 56) [8] 17).bind fun r25 => (r25).bind fun a26 => (sI S24 a26 0 (nI i) (11 : Int32)).bind fun S27 => some S27 else some (wX b Y1)) = some S' → fMo_goOn_J76_1 (b + 56) (nI j) (if E 1 i = 0 then 1 else 0) (nI i) (wX b Y) = some S' := by
    intro S' hS'
    unfold fMo_goOn_J76_1
    rw [bs mo_r29, Option.bind_some, mo_s82, ej, Option.bind_some, Option.bind_some]
    exact hS'
  have quiet : fLi_giveUp (b + (33 + 8 * j)) (wX b X) = some (wX b (relX j X)) → fMo_goOn_J76_1 (b + 56) (nI j) (if E 1 i = 0 then 1 else 0) (nI i) (wX b Y) = some (wX b Y1) → ∃ X2 Y2, fLi_giveUp (b + (33 + 8 * j)) (wX b X) = some (wX b X2) ∧ fMo_goOn_J76_1 (b + 56) (nI j) (if E 1 i = 0 then 1 else 0) (nI i) (wX b Y) = some (wX b Y2) ∧ Inv b t nr np E al ln d off ls tb (stF cur j none) q X2 Y2 ∧ CK X X2 ∧ MK Y Y2 := by
    intro h1 h2
    have hcXX : Ch [33 + 8 * j, 51, 52, 53, 54, 55, E 0 i] X (relX j X) := relX_ch.mono (by simp)
    have hcYY : Ch [56, 71, 72, 73, 77, 78, 79, 82, 85] Y Y1 := hY1.mono (by simp)
    refine ⟨_, _, h1, h2, fin hI hj hc hcXX relX_5 (relX_k (by decide) (by decide)) (relX_k (by decide) (by decide)) relX_6 hcYY (K56.of hY1 (by simp)) y1_82 y1_o (fun k hk => ⟨rfl, rfl, rfl⟩) ?_ ?_, CK.of hcXX (by intro p hp; simp only [List.mem_cons, List.not_mem_nil, or_false] at hp; omega), MK.of hcYY (by intro p hp; simp only [List.mem_cons, List.not_mem_nil, or_false] at hp; omega)⟩
    · exact hji.ch relX_ch (by simp; omega) (fun p h1 h2 _ => by rw [(hY1.2.2 p (by simp; omega)).1]) ⟨rfl, rfl⟩ (fun p h1 h2 => by rw [(hY1.2.2 p (by simp; omega)).1])
    · exact hI.2.2.2.2.2.2.chs relX_ch (by intro p hp; simp only [List.mem_cons, List.not_mem_nil, or_false] at hp; omega) hY1 (by intro p hp; simp only [List.mem_cons, List.not_mem_nil, or_false] at hp; omega) (by rw [(hY1.2.2 56 (by simp)).1])
  by_cases hb : E 1 i = 0
  · refine quiet (pre _ ?_) (hbusy _ ?_)
    · rw [if_pos hb, if_neg (by decide)]
    · rw [if_pos hb, if_neg (by decide)]
  · by_cases h64 : i < 64
    · have hq3 := hji.2.2.1 h64
      have hre : isRe (relX j X) (E 0 i) := relX_ch.re hq3.1
      have hq : ¬ qj.1 = 3 := by rw [gk, hre.2.2]; decide
      have ei : ax (nI i) 64 = some i := ax_of h64 (by decide) rfl
      obtain ⟨qr, gr⟩ := re_o (b := b) hre
      have hre6 : isRe ((relX j X).sI (E 0 i) 6 2) (E 0 i) := hre
      let X2 := ((relX j X).sI (E 0 i) 6 2).sI (E 0 i) 7 11
      let Y2 := (Y1.sI 71 i 2).sI 72 i 11
      have hcX : Ch [E 0 i] (relX j X) X2 := (Ch.rf.sI (by simp)).sI (by simp)
      have hY2 : Ch [71, 72, 73] Y1 Y2 := (Ch.rf.sI (by simp)).sI (by simp)
      have hj1 : JQ E i (relX j X) Y1 := hji.ch relX_ch (by simp; omega) (fun p h1 h2 _ => by rw [(hY1.2.2 p (by simp; omega)).1]) ⟨rfl, rfl⟩ (fun p h1 h2 => by rw [(hY1.2.2 p (by simp; omega)).1])
      obtain ⟨-, -, -, -, -, -, b6, b7, b8⟩ := hj1.2.2.1 h64
      have hjq : JQ E i X2 Y2 := by
        refine hj1.done h64 hcX ?_ rfl hY2 ?_ ?_ b8
        · intro k hk
          show (((relX j X).sI (E 0 i) 6 2).sI (E 0 i) 7 11).I (E 0 i) k = _
          rw [sI_I, up2_k (by omega), sI_I, up2_k (by omega)]
        · show (((relX j X).sI (E 0 i) 6 2).sI (E 0 i) 7 11).I (E 0 i) 6 = ((Y1.sI 71 i 2).sI 72 i 11).I 71 i
          rw [sI_I, up2_k (by omega), sI_I, up2_s, sI_I, up2_o (by omega), sI_I, up2_s]
        · show (((relX j X).sI (E 0 i) 6 2).sI (E 0 i) 7 11).I (E 0 i) 7 = ((Y1.sI 71 i 2).sI 72 i 11).I 72 i
          rw [sI_I, up2_s, sI_I, up2_s]
      have hcXX : Ch [33 + 8 * j, 51, 52, 53, 54, 55, E 0 i] X X2 := (relX_ch.mono (by simp)).tr (hcX.mono (by simp))
      have hcYY : Ch [56, 71, 72, 73, 77, 78, 79, 82, 85] Y Y2 := (hY1.mono (by simp)).tr (hY2.mono (by simp))
      obtain ⟨x2l, x2r, -⟩ := hcX.2.2 (33 + 8 * j) (by simp; omega)
      refine ⟨X2, Y2, pre _ ?_, hbusy _ ?_, fin hI hj hc hcXX (by rw [x2r]; exact relX_5) (by rw [x2l]; exact relX_k (by decide) (by decide)) (by rw [x2l]; exact relX_k (by decide) (by decide)) (by rw [x2l]; exact relX_6) hcYY ?_ ?_ ?_ ?_ hjq ?_, CK.of hcXX (by intro p hp; simp only [List.mem_cons, List.not_mem_nil, or_false] at hp; omega), MK.of hcYY (by intro p hp; simp only [List.mem_cons, List.not_mem_nil, or_false] at hp; omega)⟩
      · rw [if_neg hb, if_pos rfl, if_neg hq]
        unfold fRe_goUnanswered fRe_refuse
        rw [bs gr, bs (re_p6 hre), bs (re_p7 hre6), Option.bind_some]
      · rw [if_neg hb, if_pos rfl, if_neg (by rw [ge_64 (by omega)]; omega), bs mo_r16, Option.bind_some, mo_s71, ei, Option.bind_some, Option.bind_some, bs mo_r17, Option.bind_some, mo_s72, ei, Option.bind_some, Option.bind_some]
      · intro k _ _
        rw [(hY2.2.2 56 (by simp)).1, (hY1.2.2 56 (by simp)).1]
      · rw [(hY2.2.2 82 (by simp)).1]; exact y1_82
      · intro k hk
        rw [(hY2.2.2 82 (by simp)).1, (hY2.2.2 85 (by simp)).1]; exact y1_o k hk
      · intro k hk
        show ((Y1.sI 71 i 2).sI 72 i 11).I 71 k = _ ∧ ((Y1.sI 71 i 2).sI 72 i 11).I 72 k = _ ∧ ((Y1.sI 71 i 2).sI 72 i 11).J 73 k = _
        rw [sI_I, up2_o (by decide), sI_I, up2_k hk, up2_k hk, up2_o (by decide), (hY1.2.2 71 (by simp)).1, (hY1.2.2 72 (by simp)).1]
        exact ⟨rfl, rfl, rfl⟩
      · exact hI.2.2.2.2.2.2.chs ((relX_ch.mono (qs := [33 + 8 * j, E 0 i]) (by simp)).tr (hcX.mono (by simp))) (by intro p hp; simp only [List.mem_cons, List.not_mem_nil, or_false] at hp; omega) ((hY1.mono (qs := [71, 72, 73, 82]) (by simp)).tr (hY2.mono (by simp))) (by intro p hp; simp only [List.mem_cons, List.not_mem_nil, or_false] at hp; omega) (by rw [(hY2.2.2 56 (by simp)).1, (hY1.2.2 56 (by simp)).1])
    · have hq : qj.1 = 3 := by
        have hpo : isPo (relX j X) (E 0 i) := relX_ch.po (hji.2.2.2 (by omega)).1
        rw [gk, hpo.2.2]
      refine quiet (pre _ ?_) (hbusy _ ?_)
      · rw [if_neg hb, if_pos rfl, if_pos hq]; rfl
      · rw [if_neg hb, if_pos rfl, if_pos (by rw [ge_64 (by omega)]; omega)]
end GU
