/-! An answer comes: kind takeAnswer, model comes. -/
theorem oc_some {α : Type} {a : Nat} {A : α} {B : Nat → α} : oc (some a) A B = B a := rfl
theorem oc_none {α : Type} {A : α} {B : Nat → α} : oc none A B = A := rfl
theorem ref_poll {f a v : Nat} (hf : f = 3 ∨ f = 4) (ha : a < 8) : refN f a 1 v = 0 := by
  unfold refN
  rw [if_neg (by omega), if_pos (by omega), if_neg (by omega), if_neg (by omega), if_neg (by omega)]
section TB
variable {b t nr np j i : Nat} {E : Nat → Nat → Nat} {al ln d off ls : Nat → Nat} {tb : Nat → Nat → Nat → Nat} {cur : Nat → Option Nat} {q : Nat → List Nat} {X Y X2 Y2 : Xs}
def relX (j : Nat) (X : Xs) : Xs := ((X.sR (33 + 8 * j) 5 none).sI (33 + 8 * j) 6 0).sI (33 + 8 * j) 8 (-1)
theorem s_release (hj : j < 2) : fLi_release (b + (33 + 8 * j)) (wX b X) = some (wX b (relX j X)) := by
  have hli := li_of hj
  unfold fLi_release
  rw [bs (Li_p5 hli), bs (Li_p6 hli), bs (Li_p8 hli)]
  rfl
theorem relX_ch : Ch [33 + 8 * j] X (relX j X) := ((Ch.rf.sR (by simp)).sI (by simp)).sI (by simp)
theorem relX_5 : (relX j X).R (33 + 8 * j) 5 = none := by
  unfold relX
  rw [sI_R, sI_R, sR_R, up2_s]
theorem relX_6 : (relX j X).I (33 + 8 * j) 6 = 0 := by
  unfold relX
  rw [sI_I, up2_k (by decide), sI_I, up2_s]
theorem relX_k {k : Nat} (h6 : k ≠ 6) (h8 : k ≠ 8) : (relX j X).I (33 + 8 * j) k = X.I (33 + 8 * j) k := by
  unfold relX
  rw [sI_I, up2_k h8, sI_I, up2_k h6]
  rfl
theorem JQ.done (h : JQ E i X Y) (hi : i < 64) (hX : Ch [E 0 i] X X2) (hk : ∀ k, k < 6 → X2.I (E 0 i) k = X.I (E 0 i) k) (hk5 : X2.J (E 0 i) 5 = X.J (E 0 i) 5) (hY : Ch [71, 72, 73] Y Y2) (h6 : X2.I (E 0 i) 6 = Y2.I 71 i) (h7 : X2.I (E 0 i) 7 = Y2.I 72 i) (h8 : X2.J (E 0 i) 8 = Y2.J 73 i) : JQ E i X2 Y2 := by
  obtain ⟨⟨j1, ⟨j2, j3, j4, j5, j6⟩, j7⟩, h2, h3, h4⟩ := h
  obtain ⟨a1, a2, a3, a4, a5, a6, -⟩ := h3 hi
  refine ⟨⟨hX.jo j1, ⟨?_, ?_, ?_, ?_, ?_⟩, j7⟩, ?_, fun _ => ⟨hX.re a1, ?_, ?_, ?_, ?_, ?_, h6, h7, h8⟩, fun h => by omega⟩
  · rw [hk 1 (by omega)]; exact j2
  · rw [hk 2 (by omega)]; exact j3
  · rw [hk 3 (by omega)]; exact j4
  · rw [hk 4 (by omega)]; exact j5
  · rw [hk5]; exact j6
  · rw [hk 0 (by omega)]; exact h2
  · rw [(hY.2.2 66 (by simp)).1]; exact a2
  · rw [(hY.2.2 67 (by simp)).1]; exact a3
  · rw [(hY.2.2 68 (by simp)).1]; exact a4
  · rw [(hY.2.2 69 (by simp)).1]; exact a5
  · rw [(hY.2.2 70 (by simp)).2.2]; exact a6
theorem take_step (hI : Inv b t nr np E al ln d off ls tb cur q X Y) (hj : j < 2) (hc : cur j = some i) (hP : PND E j i X Y) (h8 : X.I (33 + 8 * j) 8 = nI t) : ∃ X2 Y2, fPl_takeAnswer b (b + (33 + 8 * j)) (wX b X) = some (wX b X2) ∧ fMo_comes (b + 56) (nI j) (wX b Y) = some (wX b Y2) ∧ Inv b t nr np E al ln d off ls tb (stF cur j none) q X2 Y2 ∧ CK X X2 ∧ MK Y Y2 := by
  obtain ⟨hli, hji, hi68, ho⟩ := hI.live hj hc
  have hL := hI.2.2.2.1 j hj
  rw [hc] at hL
  have hlin := li_of hj
  obtain ⟨ql, gl⟩ := Li_o (b := b) (X := X) hlin
  have ej : ax (nI j) 2 = some j := ax_of hj (by decide) rfl
  have h5 : gR (wX b X) (b + (33 + 8 * j)) [2] 5 = some (some (b + E 0 i)) := by rw [Li_q5 hlin, hL.2.2.1.1]; rfl
  have h8' : gI (wX b X) (b + (33 + 8 * j)) [2] 8 = some (nI t) := by rw [Li_i8 hlin, h8]
  have h7 : gI (wX b X) b [7] 7 = some (nI t) := by rw [pl_i7, hI.1.2.2.2.2.2.1]
  have h7' : gI (wX b (relX j X)) b [7] 7 = some (nI t) := by rw [pl_i7, (relX_ch.2.2 0 (by simp; omega)).1, hI.1.2.2.2.2.2.1]
  have hwa : isWa (33 + 8 * j + 4) := by unfold isWa; omega
  have hfr : isFr (33 + 8 * j + 4 + 1) := by unfold isFr; omega
  obtain ⟨hu0, r, sv, hr, hsv, hF, h86⟩ := hP
  have hF1 : FrL (relX j X) (33 + 8 * j + 4 + 1) (ansL (E 1 i) (E 2 i) (E 3 i) (E 4 i) (E 5 i) r sv) := hF.of (relX_ch.2.2 _ (by simp; omega)).1 (relX_ch.2.2 _ (by simp; omega)).1
  have hjob : JobN (relX j X) (E 0 i) (E 1 i) (E 2 i) (E 3 i) (E 4 i) (E 5 i) := hji.1.ch relX_ch (by simp; omega)
  obtain ⟨qj, gj, gk⟩ := jo_o (b := b) hjob.1
  have pre : ∀ S', (if qj.1 = 3 then fPo_take (b + E 0 i) (b + (33 + 8 * j + 4 + 1)) (nI t) (wX b (relX j X)) else fRe_take (b + E 0 i) (b + (33 + 8 * j + 4 + 1)) (nI t) (wX b (relX j X))) = some S' → fPl_takeAnswer b (b + (33 + 8 * j)) (wX b X) = some S' := by
    intro S' hS'
    unfold fPl_takeAnswer
    rw [bs h5, oc_some, bs h8', bs h7, if_pos rfl, bs gl, bs (s_release hj), bs (Li_r2 hlin), Option.bind_some, bs (Wa_r0 hwa), bs h7', Option.bind_some, bs gj, bs hS']
  let Y1 := (Y.sI 82 j (-1)).sI 85 j (-1)
  have hY1 : Ch [82, 85] Y Y1 := (Ch.rf.sI (by simp)).sI (by simp)
  have y1_82 : Y1.I 82 j = -1 := by
    show ((Y.sI 82 j (-1)).sI 85 j (-1)).I 82 j = _
    rw [sI_I, up2_o (by decide), sI_I, up2_s]
  have y1_o : ∀ k, k ≠ j → Y1.I 82 k = Y.I 82 k ∧ Y1.I 85 k = Y.I 85 k := by
    intro k hk
    show ((Y.sI 82 j (-1)).sI 85 j (-1)).I 82 k = _ ∧ ((Y.sI 82 j (-1)).sI 85 j (-1)).I 85 k = _
    rw [sI_I, up2_o (by decide), sI_I, up2_k hk, up2_k hk, up2_o (by decide)]
    exact ⟨rfl, rfl⟩
  have a82 : aI (wX b Y) (b + 82) 0 (nI j) = some (nI i) := by rw [mo_a82, bs ej, hL.2.2.1.2]; rfl
  have hbusy : ∀ S', (if nI i < (64 : Int32) then (gR (wX b Y1) (b + 56) [8] 16).bind fun r10 => (gR (wX b Y1) (b + 56) [8] 33).bind fun r11 => (r11).bind fun a12 => (aI (wX b Y1) a12 0 (nI j)).bind fun v13 => (if v13 ≤ 0 then some (1 : Int32) else some (2 : Int32)).bind fun i14 => (r10).bind fun a17 => (sI (wX b Y1) a17 0 (nI i) i14).bind fun S18 => (gR S18 (b + 56) [8] 17).bind fun r19 => (gR S18 (b + 56) [8] 33).bind fun r20 => (r20).bind fun a21 => (aI S18 a21 0 (nI j)).bind fun v22 => (r19).bind fun a23 => (sI S18 a23 0 (nI i) v22).bind fun S24 => (gR S24 (b + 56) [8] 18).bind fun r25 => (gR S24 (b + 56) [8] 33).bind fun r26 => (r26).bind fun a27 => (aI S24 a27 0 (nI j)).bind fun v28 => if v28 ≤ 0 then (gR S24 (b + 56) [8] 34).bind fun r29 => (r29).bind fun a30 => (aL S24 a30 2 (nI j)).bind fun u31 => (r25).bind fun a32 => (sL S24 a32 2 (nI i) u31).bind fun S33 => some S33 else (r25).bind fun a34 => (sL S24 a34 2 (nI i) (0 : Int64)).bind fun S35 => some S35 else (gR (wX b Y1) (b + 56) [8] 34).bind fun r37 => (r37).bind fun a38 => (aL (wX b Y1) a38 2 (nI j)).bind fun u39 => (gO (wX b Y1) (b + 56) [8]).bind fun q41 => (fMo_take (b + 56) (nI i - (64 : Int32)) u39.toInt32 (wX b Y1)).bind fun S40 => some S40) = some S' → fMo_comes (b + 56) (nI j) (wX b Y) = some S' := by
    intro S' hS'
    unfold fMo_comes
    rw [bs mo_r29, Option.bind_some, bs a82, bs mo_r29, Option.bind_some, mo_s82, ej, Option.bind_some, Option.bind_some, bs mo_r32, Option.bind_some, mo_s85, ej, Option.bind_some, Option.bind_some]
    exact hS'
  by_cases h64 : i < 64
  · -- a request
    have hq3 := hji.2.2.1 h64
    have hre : isRe (relX j X) (E 0 i) := relX_ch.re hq3.1
    have hq : ¬ qj.1 = 3 := by rw [gk, hre.2.2]; decide
    have htk := c_takeR (b := b) hre hjob hfr hr (fun e => (hsv e).1) hF1 (now := nI t)
    have hz := ((hL.2.2.2.2.1 i (by simp)).2 hu0).2.2.2 h64
    have ei : ax (nI i) 64 = some i := ax_of h64 (by decide) rfl
    have hrl : r < 4 := by rw [hr]; exact ref_lt _ _ _ _
    let Y2 := ((Y1.sI 71 i (if r = 0 then 1 else 2)).sI 72 i (nI r)).sJ 73 i (if r = 0 then lN sv else 0)
    have hY2 : Ch [71, 72, 73] Y1 Y2 := ((Ch.rf.sI (by simp)).sI (by simp)).sJ (by simp)
    have y71 : Y2.I 71 i = (if r = 0 then 1 else 2) := by
      show ((Y1.sI 71 i (if r = 0 then 1 else 2)).sI 72 i (nI r)).I 71 i = _
      rw [sI_I, up2_o (by decide), sI_I, up2_s]
    have y72 : Y2.I 72 i = nI r := by
      show ((Y1.sI 71 i (if r = 0 then 1 else 2)).sI 72 i (nI r)).I 72 i = _
      rw [sI_I, up2_s]
    have y73 : Y2.J 73 i = (if r = 0 then lN sv else 0) := by
      show (((Y1.sI 71 i (if r = 0 then 1 else 2)).sI 72 i (nI r)).sJ 73 i (if r = 0 then lN sv else 0)).J 73 i = _
      rw [sJ_J, up2_s]
    have yk : ∀ k, k ≠ i → Y2.I 71 k = Y.I 71 k ∧ Y2.I 72 k = Y.I 72 k ∧ Y2.J 73 k = Y.J 73 k := by
      intro k hk
      show ((Y1.sI 71 i (if r = 0 then 1 else 2)).sI 72 i (nI r)).I 71 k = _ ∧ ((Y1.sI 71 i (if r = 0 then 1 else 2)).sI 72 i (nI r)).I 72 k = _ ∧ (((Y1.sI 71 i (if r = 0 then 1 else 2)).sI 72 i (nI r)).sJ 73 i (if r = 0 then lN sv else 0)).J 73 k = _
      rw [sI_I, up2_o (by decide), sI_I, up2_k hk, up2_k hk, up2_o (by decide), sJ_J, up2_k hk, (hY1.2.2 71 (by simp)).1, (hY1.2.2 72 (by simp)).1]
      exact ⟨rfl, rfl, rfl⟩
    have hM : fMo_comes (b + 56) (nI j) (wX b Y) = some (wX b Y2) := by
      refine hbusy _ ?_
      have a86 : ∀ Z, Ch [71, 72, 73] Y1 Z → aI (wX b Z) (b + 86) 0 (nI j) = some (nI r) := by
        intro Z hZ
        rw [mo_a86, bs ej, (hZ.2.2 86 (by simp)).1, (hY1.2.2 86 (by simp)).1, h86]
      have cr : (nI r ≤ (0 : Int32)) = (r ≤ 0) := le_0 (by omega)
      have cif : (if nI r ≤ (0 : Int32) then some (1 : Int32) else some (2 : Int32)) = some (if r = 0 then 1 else 2) := by
        by_cases e : r = 0
        · rw [if_pos (by rw [cr]; omega), if_pos e]
        · rw [if_neg (by rw [cr]; omega), if_neg e]
      rw [if_pos (by rw [l_64 (by omega)]; exact h64), bs mo_r16, bs mo_r33, Option.bind_some, bs (a86 Y1 Ch.rf), bs cif, Option.bind_some, mo_s71, ei, Option.bind_some, Option.bind_some, bs mo_r17, bs mo_r33, Option.bind_some, bs (a86 _ (Ch.rf.sI (by simp))), Option.bind_some, mo_s72, ei, Option.bind_some, Option.bind_some, bs mo_r18, bs mo_r33, Option.bind_some, bs (a86 _ ((Ch.rf.sI (by simp)).sI (by simp)))]
      by_cases e : r = 0
      · have a87 : aL (wX b ((Y1.sI 71 i (if r = 0 then 1 else 2)).sI 72 i (nI r))) (b + 87) 2 (nI j) = some (lN sv) := by
          rw [mo_a87, bs ej]
          show some (Y.J 87 j) = _
          rw [(hsv e).2]
        rw [if_pos (by rw [cr]; omega), bs mo_r34, Option.bind_some, bs a87, Option.bind_some, mo_s73, ei, Option.bind_some, Option.bind_some]
        show _ = some (wX b (((Y1.sI 71 i (if r = 0 then 1 else 2)).sI 72 i (nI r)).sJ 73 i (if r = 0 then lN sv else 0)))
        rw [if_pos e, if_pos e]
      · rw [if_neg (by rw [cr]; omega), Option.bind_some, mo_s73, ei, Option.bind_some, Option.bind_some]
        show _ = some (wX b (((Y1.sI 71 i (if r = 0 then 1 else 2)).sI 72 i (nI r)).sJ 73 i (if r = 0 then lN sv else 0)))
        rw [if_neg e, if_neg e]
    obtain ⟨X2, hX2⟩ : ∃ X2, X2 = (if r = 0 then ((relX j X).sI (E 0 i) 6 1).sJ (E 0 i) 8 (lN sv) else ((relX j X).sI (E 0 i) 6 2).sI (E 0 i) 7 (nI r)) := ⟨_, rfl⟩
    rw [← hX2] at htk
    have hcX : Ch [E 0 i] (relX j X) X2 := by
      rw [hX2]
      split
      · exact (Ch.rf.sI (by simp)).sJ (by simp)
      · exact (Ch.rf.sI (by simp)).sI (by simp)
    have hj1 : JQ E i (relX j X) Y1 := hji.ch relX_ch (by simp; omega) (fun p h1 h2 _ => by rw [(hY1.2.2 p (by simp; omega)).1]) ⟨rfl, rfl⟩ (fun p h1 h2 => by rw [(hY1.2.2 p (by simp; omega)).1])
    obtain ⟨-, -, -, -, -, -, b6, b7, b8⟩ := hj1.2.2.1 h64
    have z1 : Y1.I 71 i = 0 ∧ Y1.I 72 i = 0 ∧ Y1.J 73 i = 0 := by
      rw [(hY1.2.2 71 (by simp)).1, (hY1.2.2 72 (by simp)).1, (hY1.2.2 73 (by simp)).2.2]
      exact hz
    have hjq : JQ E i X2 Y2 := by
      refine hj1.done h64 hcX ?_ ?_ hY2 ?_ ?_ ?_
      · intro k hk
        rw [hX2]
        split
        · rw [sJ_I, sI_I, up2_k (by omega)]
        · rw [sI_I, up2_k (by omega), sI_I, up2_k (by omega)]
      · rw [hX2]
        split
        · rw [sJ_J, up2_k (by decide)]; rfl
        · rfl
      · rw [hX2, y71]
        by_cases e : r = 0
        · rw [if_pos e, if_pos e, sJ_I, sI_I, up2_s]
        · rw [if_neg e, if_neg e, sI_I, up2_k (by decide), sI_I, up2_s]
      · rw [hX2, y72]
        by_cases e : r = 0
        · rw [if_pos e, sJ_I, sI_I, up2_k (by decide), b7, z1.2.1, e]; rfl
        · rw [if_neg e, sI_I, up2_s]
      · rw [hX2, y73]
        by_cases e : r = 0
        · rw [if_pos e, if_pos e, sJ_J, up2_s]
        · rw [if_neg e, if_neg e]
          exact b8.trans z1.2.2
    have hcXX : Ch [33 + 8 * j, 51, 52, 53, 54, 55, E 0 i] X X2 := (relX_ch.mono (by simp)).tr (hcX.mono (by simp))
    have hcYY : Ch [56, 71, 72, 73, 77, 78, 79, 82, 85] Y Y2 := (hY1.mono (by simp)).tr (hY2.mono (by simp))
    obtain ⟨x2l, x2r, -⟩ := hcX.2.2 (33 + 8 * j) (by simp; omega)
    refine ⟨X2, Y2, pre _ (by rw [if_neg hq]; exact htk), hM, fin hI hj hc hcXX (by rw [x2r]; exact relX_5) (by rw [x2l]; exact relX_k (by decide) (by decide)) (by rw [x2l]; exact relX_k (by decide) (by decide)) (by rw [x2l]; exact relX_6) hcYY ?_ ?_ ?_ yk hjq ?_, CK.of hcXX (by intro p hp; simp only [List.mem_cons, List.not_mem_nil, or_false] at hp; omega), MK.of hcYY (by intro p hp; simp only [List.mem_cons, List.not_mem_nil, or_false] at hp; omega)⟩
    · intro k _ _
      rw [(hY2.2.2 56 (by simp)).1, (hY1.2.2 56 (by simp)).1]
    · rw [(hY2.2.2 82 (by simp)).1]; exact y1_82
    · intro k hk
      rw [(hY2.2.2 82 (by simp)).1, (hY2.2.2 85 (by simp)).1]; exact y1_o k hk
    · exact hI.2.2.2.2.2.2.chs ((relX_ch.mono (qs := [33 + 8 * j, E 0 i]) (by simp)).tr (hcX.mono (by simp))) (by intro p hp; simp only [List.mem_cons, List.not_mem_nil, or_false] at hp; omega) ((hY1.mono (qs := [71, 72, 73, 82, 85]) (by simp)).tr (hY2.mono (by simp))) (by intro p hp; simp only [List.mem_cons, List.not_mem_nil, or_false] at hp; omega) (by rw [(hY2.2.2 56 (by simp)).1, (hY1.2.2 56 (by simp)).1])
  · -- a poll
    obtain ⟨p1, p2, p3, p4, p5, p6, p7, p8, p9, p10, p11⟩ := hji.2.2.2 (by omega)
    have hpo : isPo (relX j X) (E 0 i) := relX_ch.po p1
    have hq : qj.1 = 3 := by rw [gk, hpo.2.2]
    have hr0 : r = 0 := by rw [hr, p6]; exact ref_poll p10 p11
    obtain ⟨hs1, hs2⟩ := hsv hr0
    rw [p6] at hs1
    have hsvl : sv < 65536 := (hs1.2.2.1 p10).1
    have hRH1 : RH (relX j X) Y1 := hI.2.2.2.2.2.2.chs relX_ch (by intro p hp; simp only [List.mem_cons, List.not_mem_nil, or_false] at hp; omega) hY1 (by intro p hp; simp only [List.mem_cons, List.not_mem_nil, or_false] at hp; omega) (by rw [(hY1.2.2 56 (by simp)).1])
    have hcl : Y1.I 56 0 = nI t := by rw [(hY1.2.2 56 (by simp)).1]; exact hI.1.2.2.2.2.2.2.1
    obtain ⟨X2, Y2, k1, k2, k3, k4, k5, k6, k7⟩ := keepR (b := b) (t := t) (p := i - 64) (w := sv) hRH1 (by have := hI.1.2.2.1; omega) hcl (by omega) hsvl
    have x6 : (relX j X).I (E 0 i) 6 = nI (i - 64) := by rw [(relX_ch.2.2 (E 0 i) (by simp; omega)).1]; exact p2
    have hF2 : FrL (relX j X) (33 + 8 * j + 4 + 1) (ansL (E 1 i) (E 2 i) (E 3 i) 1 (E 5 i) 0 sv) := by have hh := hF1; rw [p6, hr0] at hh; exact hh
    have htk := c_takeP (b := b) hpo hfr x6 (ref_poll p10 p11) p10 hs1 hF2 k1
    have hM : fMo_comes (b + 56) (nI j) (wX b Y) = some (wX b Y2) := by
      refine hbusy _ ?_
      have a87 : aL (wX b Y1) (b + 87) 2 (nI j) = some (lN sv) := by
        rw [mo_a87, bs ej]
        show some (Y.J 87 j) = _
        rw [hs2]
      have e64 : nI i - (64 : Int32) = nI (i - 64) := pk_sub (b := 64) (by omega)
      rw [if_neg (by rw [l_64 (by omega)]; exact h64), bs mo_r34, Option.bind_some, bs a87, bs mo_o, lN_i, e64, bs k2]
    have hcXX : Ch [33 + 8 * j, 51, 52, 53, 54, 55, E 0 i] X X2 := (relX_ch.mono (by simp)).tr (k4.mono (by simp))
    have hcYY : Ch [56, 71, 72, 73, 77, 78, 79, 82, 85] Y Y2 := (hY1.mono (by simp)).tr (k5.mono (by simp))
    obtain ⟨x2l, x2r, -⟩ := k4.2.2 (33 + 8 * j) (by simp; omega)
    refine ⟨X2, Y2, pre _ (by rw [if_pos hq]; exact htk), hM, fin hI hj hc hcXX (by rw [x2r]; exact relX_5) (by rw [x2l]; exact relX_k (by decide) (by decide)) (by rw [x2l]; exact relX_k (by decide) (by decide)) (by rw [x2l]; exact relX_6) hcYY ?_ ?_ ?_ ?_ ?_ k3, CK.of hcXX (by intro p hp; simp only [List.mem_cons, List.not_mem_nil, or_false] at hp; omega), MK.of hcYY (by intro p hp; simp only [List.mem_cons, List.not_mem_nil, or_false] at hp; omega)⟩
    · intro k h1 h2
      rw [k6 k h1, (hY1.2.2 56 (by simp)).1]
    · rw [(k5.2.2 82 (by simp)).1]; exact y1_82
    · intro k hk
      rw [(k5.2.2 82 (by simp)).1, (k5.2.2 85 (by simp)).1]; exact y1_o k hk
    · intro k hk
      rw [(k5.2.2 71 (by simp)).1, (k5.2.2 72 (by simp)).1, (k5.2.2 73 (by simp)).2.2]
      exact ⟨rfl, rfl, rfl⟩
    · refine hji.ch ((relX_ch.mono (qs := [33 + 8 * j, 51, 52, 53, 54, 55]) (by simp)).tr (k4.mono (by simp))) (by simp; omega) (fun p h1 h2 _ => ?_) ⟨?_, ?_⟩ (fun p h1 h2 => ?_)
      · rw [(k5.2.2 p (by simp; omega)).1, (hY1.2.2 p (by simp; omega)).1]
      · rw [(k5.2.2 70 (by simp)).2.2]; rfl
      · rw [(k5.2.2 73 (by simp)).2.2]; rfl
      · rw [(k5.2.2 p (by simp; omega)).1, (hY1.2.2 p (by simp; omega)).1]
end TB
