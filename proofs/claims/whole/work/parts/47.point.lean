/-! point. -/
section PT
variable {b t nr np j i : Nat} {E : Nat → Nat → Nat} {al ln d off ls : Nat → Nat} {tb : Nat → Nat → Nat → Nat} {cur : Nat → Option Nat} {q : Nat → List Nat} {X Y X2 Y2 : Xs}
theorem point_new (hI : Inv b t nr np E al ln d off ls tb cur q X Y) {u f a : Nat} (u1 : 1 ≤ u) (u6 : u ≤ 6) (ha : al (u - 1) = 1) (hf : f = 3 ∨ f = 4) (a7 : a ≤ 7) (h4 : np < 4) : ∃ X' Y', fPl_point_J28_1 (nI a) (wX b X) b (nI u) (nI f) = some (nI np, wX b X') ∧ fMo_point_J29_1 (nI a) (wX b Y) (b + 56) (nI u) (nI f) = some (nI np, wX b Y') ∧ Rel b t X' Y' ∧ CK X X' ∧ MK Y Y' := by
  have h64 := hI.1.1
  have g6 : gI (wX b X) b [7] 6 = some (nI np) := by rw [pl_i6, hI.1.2.2.2.2.1]
  have i19 : gI (wX b Y) (b + 56) [8] 19 = some (nI np) := by rw [mo_i19, hI.1.2.2.2.2.2.2.2.2]
  have w3 : fMo_within (nI a) (0 : Int32) (7 : Int32) (wX b Y) = some (1, wX b Y) := w_in (lo := 0) (hi := 7) _ (by omega) a7 (by decide)
  have p3 : fPl_isWithin (nI a) (7 : Int32) (wX b X) = some (1, wX b X) := p_in (hi := 7) _ a7 (by decide)
  have e4 : ax (nI np) 4 = some np := ax_of h4 (by decide) rfl
  obtain ⟨X1, hX1⟩ : ∃ X1, X1 = X.job 3 (jI ((64 : Int32) + nI np) (nI u) (nI f) (nI a) 1 (nI np) 0) (jJ 0 0) := ⟨_, rfl⟩
  have hnew : fPo_init (wX b X).1 (nI np) (nI u) (nI f) (nI a) (b + 51) ((wX b X).add (.inr (3, [.int 0, .int 0, .int 0, .int 0, .int 0, .long 0, .int 0, .null]))) = some (wX b X1) := by
    rw [po_new, hX1]
    exact congrArg some (job_w rfl)
  have gadd : gR ((wX b X).add (.inr (3, [.int 0, .int 0, .int 0, .int 0, .int 0, .long 0, .int 0, .null]))) b [7] 4 = some (some (b + 51)) := by
    rw [add_gR (show b ≠ (wX b X).1 by show b ≠ b + (92 + X.n); omega), pl_r4]
  have hpo : isPo X1 (92 + X.n) := by
    rw [hX1]
    exact (job_c [92 + X.n] (by simp)).po gr_np
  have hck : ck (wX b X1) (some (wX b X).1) [3] = some () := by
    obtain ⟨qo, go⟩ := po_o (b := b) hpo
    show (gO (wX b X1) (b + (92 + X.n)) [3]).bind _ = _
    rw [bs go]
  have hsr : sR (wX b X1) (b + 50) 6 (nI np) (some (wX b X).1) = some (wX b (X1.sR 50 np (some (b + (92 + X.n))))) := (pa_s).trans ((bs e4).trans rfl)
  have g6' : gI (wX b (X1.sR 50 np (some (b + (92 + X.n))))) b [7] 6 = some (nI np) := by rw [pl_i6, sR_I, hX1, job_oI (by omega), hI.1.2.2.2.2.1]
  obtain ⟨XX, hXX⟩ : ∃ XX, XX = (X1.sR 50 np (some (b + (92 + X.n)))).sI 0 6 (nI (np + 1)) := ⟨_, rfl⟩
  obtain ⟨YY, hYY⟩ : ∃ YY, YY = (((Y.sI 74 np (nI u)).sI 75 np (nI f)).sI 76 np (nI a)).sI 56 19 (nI (np + 1)) := ⟨_, rfl⟩
  have hC : fPl_point_J28_1 (nI a) (wX b X) b (nI u) (nI f) = some (nI np, wX b XX) := by
    unfold fPl_point_J28_1
    rw [bs p3]
    dsimp only
    rw [if_neg (by decide), bs g6, bs pl_r3, bs gadd, Option.bind_some, bs hnew, Option.bind_some, bs hck, bs hsr, bs g6', nI_1, bs pl_p6, hXX]
  have hM : fMo_point_J29_1 (nI a) (wX b Y) (b + 56) (nI u) (nI f) = some (nI np, wX b YY) := by
    have y19 := hI.1.2.2.2.2.2.2.2.2
    have ia : gI (wX b (Y.sI 74 np (nI u))) (b + 56) [8] 19 = some (nI np) := by rw [mo_i19, sI_I, up2_o (by decide), y19]
    have ib : gI (wX b ((Y.sI 74 np (nI u)).sI 75 np (nI f))) (b + 56) [8] 19 = some (nI np) := by rw [mo_i19, sI_I, up2_o (by decide), sI_I, up2_o (by decide), y19]
    have ic : gI (wX b (((Y.sI 74 np (nI u)).sI 75 np (nI f)).sI 76 np (nI a))) (b + 56) [8] 19 = some (nI np) := by rw [mo_i19, sI_I, up2_o (by decide), sI_I, up2_o (by decide), sI_I, up2_o (by decide), y19]
    have id : gI (wX b YY) (b + 56) [8] 19 = some (nI (np + 1)) := by rw [mo_i19, hYY, sI_I, up2_s]
    have em : nI (np + 1) - (1 : Int32) = nI np := pk_sub (a := np + 1) (b := 1) (by omega)
    unfold fMo_point_J29_1
    rw [bs w3]
    dsimp only
    rw [if_neg (by decide), bs i19, if_neg (show ¬ nI np = (4 : Int32) by rw [q_4 (by omega)]; omega), bs mo_r20, bs i19, Option.bind_some, mo_s74, e4, Option.bind_some, Option.bind_some, bs mo_r21, bs ia, Option.bind_some, mo_s75, e4, Option.bind_some, Option.bind_some, bs mo_r22, bs ib, Option.bind_some, mo_s76, e4, Option.bind_some, Option.bind_some, bs ic, nI_1, bs mo_p19, ← hYY, bs id, em]
  obtain ⟨E', hE'⟩ : ∃ E', E' = exE E (64 + np) (jw (92 + X.n) u f a 1 0) := ⟨_, rfl⟩
  have e0 : E' 0 (64 + np) = 92 + X.n := by rw [hE']; exact exE_s
  have e1 : E' 1 (64 + np) = u := by rw [hE']; exact exE_s
  have e2 : E' 2 (64 + np) = f := by rw [hE']; exact exE_s
  have e3 : E' 3 (64 + np) = a := by rw [hE']; exact exE_s
  have e4' : E' 4 (64 + np) = 1 := by rw [hE']; exact exE_s
  have e5 : E' 5 (64 + np) = 0 := by rw [hE']; exact exE_s
  have eo : ∀ i, i ≠ 64 + np → ∀ c, E' c i = E c i := by
    intro i h c
    rw [hE', exE_o h]
  have hcX : Ch [0, 49, 50, 92 + X.n] (X.gr 3) XX := by
    rw [hXX, hX1]
    exact ((job_c _ (by simp)).sR (by simp)).sI (by simp)
  have hcY : Ch [56, 74, 75, 76] Y YY := by
    rw [hYY]
    exact (((Ch.rf.sI (by simp)).sI (by simp)).sI (by simp)).sI (by simp)
  have x0 : ∀ k, k ≠ 6 → XX.I 0 k = X.I 0 k := fun k hk => by rw [hXX, sI_I, up2_k hk, sR_I, hX1, job_oI (by omega)]
  have y0 : ∀ k, k ≠ 19 → YY.I 56 k = Y.I 56 k := fun k hk => by rw [hYY, sI_I, up2_k hk, sI_I, up2_o (by decide), sI_I, up2_o (by decide), sI_I, up2_o (by decide)]
  have xo : XX.I (92 + X.n) = jI ((64 : Int32) + nI np) (nI u) (nI f) (nI a) 1 (nI np) 0 := by rw [hXX, sI_I, up2_row (by omega), sR_I, hX1, job_I]
  have xJ : XX.J (92 + X.n) = jJ 0 0 := by rw [hXX, sI_J, sR_J, hX1, job_J]
  have y74 : YY.I 74 np = nI u := by rw [hYY, sI_I, up2_o (by decide), sI_I, up2_o (by decide), sI_I, up2_o (by decide), sI_I, up2_s]
  have y75 : YY.I 75 np = nI f := by rw [hYY, sI_I, up2_o (by decide), sI_I, up2_o (by decide), sI_I, up2_s]
  have y76 : YY.I 76 np = nI a := by rw [hYY, sI_I, up2_o (by decide), sI_I, up2_s]
  have en : 64 + np - 64 = np := by omega
  have hin : Inv b t nr (np + 1) E' al ln d off ls tb cur q XX YY := by
    refine adopt (grow hI 3) (i0 := 64 + np) (fun i => by unfold liveJ; omega) (by unfold liveJ; omega) eo (fun i hi => ?_) (by rw [e0]; omega) (by rw [e0]; exact hcX) (hcY.mono (by intro p hp; simp only [List.mem_cons, List.not_mem_nil, or_false] at hp ⊢; omega)) ⟨h64, by omega, hI.1.2.2.1, ?_, ?_, ?_, ?_, ?_, ?_⟩ (y0 25 (by decide)) ?_ (fun k hk => ⟨fun p h1 h2 => ?_, ?_⟩) (fun k hk p h1 h2 => ?_) (fun i hi => ?_) (fun p hp => ?_) (fun i h1 h2 => ?_) (fun i h => h)
    · have := (hI.2.2.1.1 i hi).1.1.2.1
      rw [e0]; omega
    · rw [x0 5 (by decide)]; exact hI.1.2.2.2.1
    · rw [hXX, sI_I, up2_s]
    · rw [x0 7 (by decide)]; exact hI.1.2.2.2.2.2.1
    · rw [y0 0 (by decide)]; exact hI.1.2.2.2.2.2.2.1
    · rw [y0 10 (by decide)]; exact hI.1.2.2.2.2.2.2.2.1
    · rw [hYY, sI_I, up2_s]
    · unfold JQ
      rw [e0, e1, e2, e3, e4', e5, en]
      refine ⟨⟨(hcX.po gr_np).jo, ⟨by rw [xo]; rfl, by rw [xo]; rfl, by rw [xo]; rfl, by rw [xo]; rfl, by rw [xJ]; rfl⟩, by omega, by omega, by omega, by omega, by omega, by decide⟩, by rw [xo]; exact nI_add 64 np, fun h => by omega, fun _ => ⟨hcX.po gr_np, by rw [xo]; rfl, y74, y75, y76, rfl, rfl, u1, u6, hf, by omega⟩⟩
    · rw [(hcY.2.2 p (by simp; omega)).1]
    · rw [(hcY.2.2 70 (by simp)).2.2]
    · have hk : k ≠ np := by omega
      have hp : p = 74 ∨ p = 75 ∨ p = 76 := by omega
      rcases hp with rfl | rfl | rfl
      · rw [hYY, sI_I, up2_o (by decide), sI_I, up2_o (by decide), sI_I, up2_o (by decide), sI_I, up2_k hk]
      · rw [hYY, sI_I, up2_o (by decide), sI_I, up2_o (by decide), sI_I, up2_k hk, sI_I, up2_o (by decide)]
      · rw [hYY, sI_I, up2_o (by decide), sI_I, up2_k hk, sI_I, up2_o (by decide), sI_I, up2_o (by decide)]
    · rw [hXX, sI_R, sR_R, up2_o (by decide), hX1, eo i (by omega) 0]
      exact hI.2.2.1.2.1 i hi
    · by_cases e : p = np
      · subst e
        rw [hXX, sI_R, sR_R, up2_s, e0]
      · rw [hXX, sI_R, sR_R, up2_k e, hX1, eo (64 + p) (by omega) 0]
        exact hI.2.2.1.2.2.1 p (by omega)
    · by_cases e : i = 64 + np
      · rw [e, e1]; exact ha
      · rw [eo i e 1]; exact hI.2.2.1.2.2.2.2.1 i h1 (by omega)
  refine ⟨XX, YY, hC, hM, hin.rel, ?_, MK.of hcY (by intro p hp; simp only [List.mem_cons, List.not_mem_nil, or_false] at hp; omega)⟩
  rw [hXX, hX1]
  exact job_ck.tr (CK.of (ps := [0, 50]) ((Ch.rf.sR (by simp)).sI (by simp)) (by intro p hp; simp only [List.mem_cons, List.not_mem_nil, or_false] at hp; omega))
theorem point_step (hI : Inv b t nr np E al ln d off ls tb cur q X Y) (x y z : Int32) : ∃ X' Y' r, fPl_point b x y z (wX b X) = some (r, wX b X') ∧ fMo_point (b + 56) x y z (wX b Y) = some (r, wX b Y') ∧ Rel b t X' Y' ∧ CK X X' ∧ MK Y Y' := by
  obtain ⟨qp, gp⟩ := pl_o (b := b) (X := X)
  have hnp := hI.1.2.1
  have g6 : gI (wX b X) b [7] 6 = some (nI np) := by rw [pl_i6, hI.1.2.2.2.2.1]
  have i19 : gI (wX b Y) (b + 56) [8] 19 = some (nI np) := by rw [mo_i19, hI.1.2.2.2.2.2.2.2.2]
  rcases tri x (lo := 1) (hi := 6) (by omega) (by omega) with ⟨u, u1, u6, rfl⟩ | h
  · have w1 : fMo_within (nI u) (1 : Int32) (6 : Int32) (wX b Y) = some (1, wX b Y) := w_in (lo := 1) (hi := 6) _ u1 u6 (by decide)
    have hs : u - 1 < 6 := by omega
    have a57 : aI (wX b Y) (b + 57) 1 (nI u) = some (nI (al (u - 1))) := by
      have := (hI.2.1.2.2 _ hs).1
      rw [show u - 1 + 1 = u by omega] at this
      rw [mo_a57, bs (ax_of (show u < 7 by omega) (by decide) rfl), this]
    have hal2 := (hI.2.1.1 _ hs).1
    by_cases ha : al (u - 1) = 1
    · have hat : fPl_isAttachedSlave b (nI u) (wX b X) = some (1, wX b X) := by rw [c_att hI.2.1 (by omega), if_pos ⟨u1, u6, ha⟩]
      have preM : ∀ R, (if y = (3 : Int32) then fMo_point_J29_1 z (wX b Y) (b + 56) (nI u) y else if y = (4 : Int32) then fMo_point_J29_1 z (wX b Y) (b + 56) (nI u) y else some ((-1 : Int32), wX b Y)) = R → fMo_point (b + 56) (nI u) y z (wX b Y) = R := by
        intro R hR
        unfold fMo_point
        rw [bs w1]
        dsimp only
        rw [if_neg (by decide), bs mo_r1, Option.bind_some, bs a57, if_neg (by rw [ha]; decide)]
        exact hR
      have preC : ∀ R, (if nI np < (4 : Int32) then if y = (3 : Int32) then fPl_point_J28_1 z (wX b X) b (nI u) y else if y = (4 : Int32) then fPl_point_J28_1 z (wX b X) b (nI u) y else some ((-1 : Int32), wX b X) else some ((-1 : Int32), wX b X)) = R → fPl_point b (nI u) y z (wX b X) = R := by
        intro R hR
        unfold fPl_point
        rw [bs gp, bs hat]
        dsimp only
        rw [if_neg (by decide), bs g6]
        exact hR
      by_cases hy : y = 3 ∨ y = 4
      · obtain ⟨f, hf, hyf⟩ : ∃ f : Nat, (f = 3 ∨ f = 4) ∧ y = nI f := by
          rcases hy with h | h
          · exact ⟨3, Or.inl rfl, h⟩
          · exact ⟨4, Or.inr rfl, h⟩
        have sel : ∀ {α : Type} (A B : α), (if y = (3 : Int32) then A else if y = (4 : Int32) then A else B) = A := by
          intro α A B
          by_cases e : y = 3
          · rw [if_pos e]
          · rw [if_neg e, if_pos (hy.resolve_left e)]
        rw [sel] at preM
        rw [sel] at preC
        subst hyf
        rcases tri z (lo := 0) (hi := 7) (by omega) (by omega) with ⟨a, -, a7, rfl⟩ | h
        · by_cases h4 : np < 4
          · obtain ⟨X', Y', r1, r2, r3⟩ := point_new hI u1 u6 ha hf a7 h4
            exact ⟨X', Y', _, preC _ (by rw [if_pos (by rw [l_4 (by omega)]; exact h4)]; exact r1), preM _ r2, r3⟩
          · have w3 : fMo_within (nI a) (0 : Int32) (7 : Int32) (wX b Y) = some (1, wX b Y) := w_in (lo := 0) (hi := 7) _ (by omega) a7 (by decide)
            refine ⟨X, Y, -1, preC _ ?_, preM _ ?_, hI.rel, CK.rf, MK.rf⟩
            · rw [if_neg (by rw [l_4 (by omega)]; exact h4)]
            · unfold fMo_point_J29_1
              rw [bs w3]
              dsimp only
              rw [if_neg (by decide), bs i19, if_pos (show nI np = (4 : Int32) by rw [q_4 (by omega)]; omega)]
        · have wo : fMo_within z (0 : Int32) (7 : Int32) (wX b Y) = some (0, wX b Y) := w_out _ h
          have po : fPl_isWithin z (7 : Int32) (wX b X) = some (0, wX b X) := p_out _ h
          refine ⟨X, Y, -1, preC _ ?_, preM _ ?_, hI.rel, CK.rf, MK.rf⟩
          · by_cases h4 : np < 4
            · rw [if_pos (by rw [l_4 (by omega)]; exact h4)]
              unfold fPl_point_J28_1
              rw [bs po]
              dsimp only
              rw [if_pos rfl]
            · rw [if_neg (by rw [l_4 (by omega)]; exact h4)]
          · unfold fMo_point_J29_1
            rw [bs wo]
            dsimp only
            rw [if_pos rfl]
      · have y3 : ¬ y = 3 := fun e => hy (Or.inl e)
        have y4 : ¬ y = 4 := fun e => hy (Or.inr e)
        refine ⟨X, Y, -1, preC _ ?_, preM _ ?_, hI.rel, CK.rf, MK.rf⟩
        · rw [if_neg y3, if_neg y4]
          by_cases h4 : np < 4
          · rw [if_pos (by rw [l_4 (by omega)]; exact h4)]
          · rw [if_neg (by rw [l_4 (by omega)]; exact h4)]
        · rw [if_neg y3, if_neg y4]
    · have hat : fPl_isAttachedSlave b (nI u) (wX b X) = some (0, wX b X) := by rw [c_att hI.2.1 (by omega), if_neg (fun h => ha h.2.2)]
      have ha0 : al (u - 1) = 0 := by omega
      refine ⟨X, Y, -1, ?_, ?_, hI.rel, CK.rf, MK.rf⟩
      · unfold fPl_point
        rw [bs gp, bs hat]
        dsimp only
        rw [if_pos rfl]
      · unfold fMo_point
        rw [bs w1]
        dsimp only
        rw [if_neg (by decide), bs mo_r1, Option.bind_some, bs a57, if_pos (by rw [ha0]; rfl)]
  · have wo : fMo_within x (1 : Int32) (6 : Int32) (wX b Y) = some (0, wX b Y) := w_out _ h
    have hat : fPl_isAttachedSlave b x (wX b X) = some (0, wX b X) := by
      unfold fPl_isAttachedSlave
      rw [bs (s_out _ h)]
      dsimp only
      rw [if_pos rfl, bs bz_0]
    refine ⟨X, Y, -1, ?_, ?_, hI.rel, CK.rf, MK.rf⟩
    · unfold fPl_point
      rw [bs gp, bs hat]
      dsimp only
      rw [if_pos rfl]
    · unfold fMo_point
      rw [bs wo]
      dsimp only
      rw [if_pos rfl]
end PT
