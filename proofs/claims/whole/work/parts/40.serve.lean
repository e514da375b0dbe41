/-! What a tick does on one line: both sides. -/
section SV
variable {b t nr np j i : Nat} {E : Nat → Nat → Nat} {al ln d off ls : Nat → Nat} {tb : Nat → Nat → Nat → Nat} {cur : Nat → Option Nat} {q : Nat → List Nat} {X Y X2 Y2 : Xs}
def srv2 (t0 t1 : Nat) (S7 : Ws) : Option Ws := (gO S7 t1 [2]).bind fun q22 => (fLi_startNext t1 S7).bind fun (v21, S20) => if v21 = 0 then some S20 else (gO S20 t0 [7]).bind fun q24 => (fPl_send t0 t1 S20).bind fun S23 => (gO S23 t0 [7]).bind fun q26 => (fPl_takeAnswer t0 t1 S23).bind fun S25 => some S25
def mdl2 (t0 : Nat) (i27 : Int32) (S34 : Ws) : Option ((Int32 × Ws) ⊕ (Ws)) := (gR S34 t0 [8] 29).bind fun r39 => (r39).bind fun a40 => (aI S34 a40 0 i27).bind fun v41 => if 0 ≤ v41 then some (.inl (i27 + 1, S34)) else (gR S34 t0 [8] 28).bind fun r42 => (r42).bind fun a43 => (aI S34 a43 0 i27).bind fun v44 => if v44 ≤ 0 then some (.inl (i27 + 1, S34)) else (gO S34 t0 [8]).bind fun q46 => (fMo_begins t0 i27 S34).bind fun S45 => some (.inl (i27 + 1, S45))
theorem noDue (hI : Inv b t nr np E al ln d off ls tb cur q X Y) (hj : j < 2) (hc : cur j = none) : fLi_isOverdue (b + (33 + 8 * j)) (nI t) (wX b X) = some (0, wX b X) := by
  have hlin := li_of hj
  have hL := hI.2.2.2.1 j hj
  rw [hc] at hL
  have g5 : gR (wX b X) (b + (33 + 8 * j)) [2] 5 = some none := by rw [Li_q5 hlin, hL.2.2.1.1]; rfl
  unfold fLi_isOverdue
  rw [bs g5, oc_none, bs bz_0]
theorem serve1 (hI : Inv b t nr np E al ln d off ls tb cur q X Y) (hj : j < 2) : ∃ X1 Y1, fPl_serve b (b + (33 + 8 * j)) (wX b X) = srv2 b (b + (33 + 8 * j)) (wX b X1) ∧ fMo_tick_L78 (b + 56) (nI j, wX b Y) = mdl2 (b + 56) (nI j) (wX b Y1) ∧ Rel2 b t nr np E al ln d off X1 Y1 ∧ CK X X1 ∧ MK Y Y1 := by
  have hlin := li_of hj
  have ht := hI.1.2.2.1
  have ej : ax (nI j) 2 = some j := ax_of hj (by decide) rfl
  have hL := hI.2.2.2.1 j hj
  obtain ⟨qp, gp⟩ := pl_o (b := b) (X := X)
  have h7 : ∀ {ls2 : Nat → Nat} {tb2 : Nat → Nat → Nat → Nat} {cur2 : Nat → Option Nat} {q2 : Nat → List Nat} {X2 Y2 : Xs}, Inv b t nr np E al ln d off ls2 tb2 cur2 q2 X2 Y2 → gI (wX b X2) b [7] 7 = some (nI t) := fun h => by rw [pl_i7, h.1.2.2.2.2.2.1]
  have hMpre : ∀ v R, Y.I 82 j = v → (if v < 0 then some (wX b Y) else (gO (wX b Y) (b + 56) [8]).bind fun q37 => (fMo_goOn (b + 56) (nI j) (wX b Y)).bind fun S36 => some S36) = some R → fMo_tick_L78 (b + 56) (nI j, wX b Y) = mdl2 (b + 56) (nI j) R := by
    intro v R hv hR
    have a82 : aI (wX b Y) (b + 82) 0 (nI j) = some v := by rw [mo_a82, bs ej, hv]
    unfold fMo_tick_L78 mdl2
    dsimp only
    rw [if_neg (show ¬ (2 : Int32) ≤ nI j by rw [ge_2 (by omega)]; omega), bs mo_r29, Option.bind_some, bs a82, bs hR]
  cases hc : cur j with
  | none =>
    rw [hc] at hL
    have hv : Y.I 82 j = -1 := hL.2.2.1.2
    obtain ⟨ql, gl⟩ := Li_o (b := b) (X := X) hlin
    refine ⟨X, Y, ?_, hMpre _ _ hv (by rw [if_pos (by decide)]), ⟨_, _, _, _, hI⟩, CK.rf, MK.rf⟩
    unfold fPl_serve srv2
    rw [bs gp, bs (noTake hI hj (Or.inl hc)), bs (h7 hI), bs gl, bs (noDue hI hj hc)]
    dsimp only
    rw [if_pos rfl, Option.bind_some]
  | some i =>
    obtain ⟨hli, hji, hi68, ho⟩ := hI.live hj hc
    rw [hc] at hL
    have hv : Y.I 82 j = nI i := hL.2.2.1.2
    obtain ⟨m6, m7, m8, m9⟩ := hL.2.2.2.2.2.2 i rfl
    have hneg : ¬ nI i < 0 := nI_pos (by omega)
    have a82 : aI (wX b Y) (b + 82) 0 (nI j) = some (nI i) := by rw [mo_a82, bs ej, hv]
    have a85 : aI (wX b Y) (b + 85) 0 (nI j) = some (Y.I 85 j) := by rw [mo_a85, bs ej]
    have h0 : gI (wX b Y) (b + 56) [8] 0 = some (nI t) := by rw [mo_i0, hI.1.2.2.2.2.2.2.1]
    by_cases h8 : X.I (33 + 8 * j) 8 = nI t
    · have hP : PND E j i X Y := by
        rcases m9 with m9 | m9
        · rw [← m8, h8] at m9
          exact absurd m9.symm (ne_m1 ht)
        · exact m9
      obtain ⟨X1, Y1, t1, t2, t3, t4, t5⟩ := take_step hI hj hc hP h8
      obtain ⟨ql, gl⟩ := Li_o (b := b) (X := X1) hlin
      refine ⟨X1, Y1, ?_, hMpre _ _ hv ?_, ⟨_, _, _, _, t3⟩, t4, t5⟩
      · unfold fPl_serve srv2
        rw [bs gp, bs t1, bs (h7 t3), bs gl, bs (noDue t3 hj stF_s)]
        dsimp only
        rw [if_pos rfl, Option.bind_some]
      · rw [if_neg hneg, bs mo_o]
        unfold fMo_goOn
        rw [bs mo_r29, Option.bind_some, bs a82, bs mo_r32, Option.bind_some, bs a85, bs h0, if_pos (by rw [← m8]; exact h8), bs mo_o, bs t2, Option.bind_some]
    · obtain ⟨ql, gl⟩ := Li_o (b := b) (X := X) hlin
      have h5 : gR (wX b X) (b + (33 + 8 * j)) [2] 5 = some (some (b + E 0 i)) := by rw [Li_q5 hlin, hL.2.2.1.1]; rfl
      obtain ⟨qj, gj, -⟩ := jo_o (b := b) hji.1.1
      obtain ⟨w, hw⟩ : ∃ w : Int32, w = if E 1 i = 0 then 2 else 3 := ⟨_, rfl⟩
      have cw : (if (if E 1 i = 0 then (1 : Int32) else 0) = 0 then some (3 : Int32) else some (2 : Int32)) = some w := by
        by_cases e : E 1 i = 0
        · rw [if_pos e, if_neg (by decide), hw, if_pos e]
        · rw [if_neg e, if_pos rfl, hw, if_neg e]
      have hdue : fLi_isOverdue (b + (33 + 8 * j)) (nI t) (wX b X) = some (if nI t - X.I (33 + 8 * j) 7 < w then 0 else 1, wX b X) := by
        unfold fLi_isOverdue
        rw [bs h5, oc_some, bs h5, Option.bind_some, bs gj, bs (s_isB hji.1)]
        dsimp only
        rw [bs cw, bs (Li_i7 hlin)]
        by_cases e : nI t - X.I (33 + 8 * j) 7 < w
        · rw [if_pos e, if_pos e, bs bz_0]
        · rw [if_neg e, if_neg e, bs bz_1]
      have a84 : aI (wX b Y) (b + 84) 0 (nI j) = some (X.I (33 + 8 * j) 7) := by rw [mo_a84, bs ej, m7]
      have goM : ∀ R, (if w ≤ nI t - X.I (33 + 8 * j) 7 then if (if E 1 i = 0 then (1 : Int32) else 0) = 0 then (gR (wX b Y) (b + 56) [8] 30).bind fun r30 => (r30).bind fun a31 => (aI (wX b Y) a31 0 (nI j)).bind fun v32 => if (3 : Int32) ≤ v32 then fMo_goOn_J76_1 (b + 56) (nI j) (if E 1 i = 0 then (1 : Int32) else 0) (nI i) (wX b Y) else (gO (wX b Y) (b + 56) [8]).bind fun q34 => (fMo_send (b + 56) (nI j) (wX b Y)).bind fun S33 => some S33 else fMo_goOn_J76_1 (b + 56) (nI j) (if E 1 i = 0 then (1 : Int32) else 0) (nI i) (wX b Y) else some (wX b Y)) = some R → fMo_tick_L78 (b + 56) (nI j, wX b Y) = mdl2 (b + 56) (nI j) R := by
        intro R hR
        refine hMpre _ _ hv ?_
        rw [if_neg hneg, bs mo_o]
        unfold fMo_goOn
        rw [bs mo_r29, Option.bind_some, bs a82, bs mo_r32, Option.bind_some, bs a85, bs h0, if_neg (by rw [← m8]; exact h8), bs mo_o, bs (m_isB hji hi68)]
        dsimp only
        rw [bs h0, bs mo_r31, Option.bind_some, bs a84, bs cw]
        rw [bs hR]
      by_cases due : nI t - X.I (33 + 8 * j) 7 < w
      · have ndue : ¬ w ≤ nI t - X.I (33 + 8 * j) 7 := fun h => Int32.not_lt.mpr h due
        refine ⟨X, Y, ?_, goM _ (by rw [if_neg ndue]), ⟨_, _, _, _, hI⟩, CK.rf, MK.rf⟩
        unfold fPl_serve srv2
        rw [bs gp, bs (noTake hI hj (Or.inr h8)), bs (h7 hI), bs gl, bs hdue]
        dsimp only
        rw [if_pos (show (if nI t - X.I (33 + 8 * j) 7 < w then (0 : Int32) else 1) = 0 by rw [if_pos due]), Option.bind_some]
      · have ndue : w ≤ nI t - X.I (33 + 8 * j) 7 := Int32.not_lt.mp due
        have hmay : fLi_maySendAgain (b + (33 + 8 * j)) (wX b X) = some (if E 1 i ≠ 0 ∧ ¬ (3 : Int32) ≤ X.I (33 + 8 * j) 6 then 1 else 0, wX b X) := by
          unfold fLi_maySendAgain
          rw [bs h5, oc_some, bs h5, Option.bind_some, bs gj, bs (s_isB hji.1)]
          dsimp only
          by_cases e : E 1 i = 0
          · rw [if_pos e, if_neg (by decide), bs bz_0, if_neg (fun q => q.1 e)]
          · rw [if_neg e, if_pos rfl, bs (Li_i6 hlin)]
            by_cases e3 : (3 : Int32) ≤ X.I (33 + 8 * j) 6
            · rw [if_pos e3, bs bz_0, if_neg (fun q => q.2 e3)]
            · rw [if_neg e3, bs bz_1, if_pos ⟨e, e3⟩]
        have a83 : aI (wX b Y) (b + 83) 0 (nI j) = some (X.I (33 + 8 * j) 6) := by rw [mo_a83, bs ej, m6]
        by_cases may : E 1 i ≠ 0 ∧ ¬ (3 : Int32) ≤ X.I (33 + 8 * j) 6
        · obtain ⟨Xm, X1, Y1, p1, p2, p3, p4, p5, p6⟩ := send_step (hI.bas hj) hj hc m6
          obtain ⟨qm, gm⟩ := pl_o (b := b) (X := Xm)
          refine ⟨X1, Y1, ?_, goM _ ?_, p4, p5, p6⟩
          · unfold fPl_serve srv2
            rw [bs gp, bs (noTake hI hj (Or.inr h8)), bs (h7 hI), bs gl, bs hdue]
            dsimp only
            rw [if_neg (show ¬ (if nI t - X.I (33 + 8 * j) 7 < w then (0 : Int32) else 1) = 0 by rw [if_neg due]; decide), bs gl, bs hmay]
            dsimp only
            rw [if_neg (show ¬ (if E 1 i ≠ 0 ∧ ¬ (3 : Int32) ≤ X.I (33 + 8 * j) 6 then (1 : Int32) else 0) = 0 by rw [if_pos may]; decide), bs gp, bs p1, bs gm, bs p2, Option.bind_some]
          · rw [if_pos ndue, if_neg may.1, if_pos rfl, bs mo_r30, Option.bind_some, bs a83, if_neg may.2, bs mo_o, bs p3]
        · obtain ⟨X1, Y1, g1, g2, g3, g4, g5⟩ := give_step hI hj hc
          refine ⟨X1, Y1, ?_, goM _ ?_, ⟨_, _, _, _, g3⟩, g4, g5⟩
          · unfold fPl_serve srv2
            rw [bs gp, bs (noTake hI hj (Or.inr h8)), bs (h7 hI), bs gl, bs hdue]
            dsimp only
            rw [if_neg (show ¬ (if nI t - X.I (33 + 8 * j) 7 < w then (0 : Int32) else 1) = 0 by rw [if_neg due]; decide), bs gl, bs hmay]
            dsimp only
            rw [if_pos (show (if E 1 i ≠ 0 ∧ ¬ (3 : Int32) ≤ X.I (33 + 8 * j) 6 then (1 : Int32) else 0) = 0 by rw [if_neg may]), bs gl, bs g1, Option.bind_some]
          · rw [if_pos ndue]
            by_cases e : E 1 i = 0
            · rw [if_neg (show ¬ (if E 1 i = 0 then (1 : Int32) else 0) = 0 by rw [if_pos e]; decide), g2]
            · rw [if_pos (show (if E 1 i = 0 then (1 : Int32) else 0) = 0 by rw [if_neg e]), bs mo_r30, Option.bind_some, bs a83]
              have e3 : (3 : Int32) ≤ X.I (33 + 8 * j) 6 := Decidable.of_not_not (fun h => may ⟨e, h⟩)
              rw [if_pos e3, g2]
theorem serve2 (hI : Inv b t nr np E al ln d off ls tb cur q X Y) (hj : j < 2) : ∃ X1 Y1, srv2 b (b + (33 + 8 * j)) (wX b X) = some (wX b X1) ∧ mdl2 (b + 56) (nI j) (wX b Y) = some (.inl (nI (j + 1), wX b Y1)) ∧ Rel2 b t nr np E al ln d off X1 Y1 ∧ CK X X1 ∧ MK Y Y1 := by
  have hlin := li_of hj
  have ej : ax (nI j) 2 = some j := ax_of hj (by decide) rfl
  have hL := hI.2.2.2.1 j hj
  obtain ⟨ql, gl⟩ := Li_o (b := b) (X := X) hlin
  cases hc : cur j with
  | some i =>
    obtain ⟨hli, hji, hi68, ho⟩ := hI.live hj hc
    rw [hc] at hL
    have a82 : aI (wX b Y) (b + 82) 0 (nI j) = some (nI i) := by rw [mo_a82, bs ej, hL.2.2.1.2]; rfl
    refine ⟨X, Y, ?_, ?_, ⟨_, _, _, _, hI⟩, CK.rf, MK.rf⟩
    · unfold srv2
      rw [bs gl, bs (noStart hI hj (Or.inl ⟨i, hc⟩))]
      dsimp only
      rw [if_pos rfl]
    · unfold mdl2
      rw [bs mo_r29, Option.bind_some, bs a82, if_pos (by rw [ge_0 (by omega)]; omega), nI_1]
  | none =>
    rw [hc] at hL
    have a82 : aI (wX b Y) (b + 82) 0 (nI j) = some (-1) := by rw [mo_a82, bs ej, hL.2.2.1.2]; rfl
    have a81 : aI (wX b Y) (b + 81) 0 (nI j) = some (nI (q j).length) := by rw [mo_a81, bs ej, hL.1.2.2.2]
    cases hq : q j with
    | nil =>
      rw [hq] at a81
      refine ⟨X, Y, ?_, ?_, ⟨_, _, _, _, hI⟩, CK.rf, MK.rf⟩
      · unfold srv2
        rw [bs gl, bs (noStart hI hj (Or.inr hq))]
        dsimp only
        rw [if_pos rfl]
      · unfold mdl2
        rw [bs mo_r29, Option.bind_some, bs a82, if_neg (by decide), bs mo_r28, Option.bind_some, bs a81, if_pos (show nI ([] : List Nat).length ≤ (0 : Int32) by decide), nI_1]
    | cons h tl =>
      obtain ⟨Xa, Xm, X1, Y1, p1, p2, p3, p4, p5, p6, p7⟩ := begin_step hI hj hc hq
      have hl4 := hL.1.1
      rw [hq] at a81 hl4
      obtain ⟨qa, ga⟩ := pl_o (b := b) (X := Xa)
      obtain ⟨qm, gm⟩ := pl_o (b := b) (X := Xm)
      refine ⟨X1, Y1, ?_, ?_, p5, p6, p7⟩
      · unfold srv2
        rw [bs gl, bs p1]
        dsimp only
        rw [if_neg (by decide), bs ga, bs p2, bs gm, bs p3]
      · unfold mdl2
        rw [bs mo_r29, Option.bind_some, bs a82, if_neg (by decide), bs mo_r28, Option.bind_some, bs a81, if_neg (show ¬ nI (h :: tl).length ≤ (0 : Int32) by rw [le_0 (by omega)]; simp), bs mo_o, bs p4, nI_1]
theorem serve_step (hR : Rel2 b t nr np E al ln d off X Y) (hj : j < 2) : ∃ X1 Y1, fPl_serve b (b + (33 + 8 * j)) (wX b X) = some (wX b X1) ∧ fMo_tick_L78 (b + 56) (nI j, wX b Y) = some (.inl (nI (j + 1), wX b Y1)) ∧ Rel2 b t nr np E al ln d off X1 Y1 ∧ CK X X1 ∧ MK Y Y1 := by
  obtain ⟨ls, tb, cur, q, hI⟩ := hR
  obtain ⟨X1, Y1, a1, a2, ⟨ls1, tb1, cur1, q1, hI1⟩, a4, a5⟩ := serve1 hI hj
  obtain ⟨X2, Y2, b1, b2, b3, b4, b5⟩ := serve2 hI1 hj
  exact ⟨X2, Y2, by rw [a1, b1], by rw [a2, b2], b3, a4.tr b4, a5.tr b5⟩
end SV
