/-! request. -/
def mrq (t0 : Nat) (v10 t1 : Int32) (S27 : Ws) : Option (Int32 × Ws) := if t1 = 0 then (gR S27 t0 [8] 16).bind fun r52 => (r52).bind fun a53 => (sI S27 a53 0 v10 (3 : Int32)).bind fun S54 => (lp (fMo_request_L126 t0 v10) 1000 ((0 : Int32), S54)).bind fun S58 => some (v10, S58) else if (6 : Int32) < t1 then fMo_request_J190_1 t0 v10 S27 else (gR S27 t0 [8] 1).bind fun r35 => (r35).bind fun a36 => (aI S27 a36 1 t1).bind fun v37 => if v37 = 0 then fMo_request_J190_1 t0 v10 S27 else (gR S27 t0 [8] 28).bind fun r38 => (gR S27 t0 [8] 2).bind fun r39 => (r39).bind fun a40 => (aI S27 a40 0 t1).bind fun v41 => (r38).bind fun a42 => (aI S27 a42 0 v41).bind fun v43 => if v43 = (4 : Int32) then fMo_request_J190_1 t0 v10 S27 else (gR S27 t0 [8] 2).bind fun r44 => (r44).bind fun a45 => (aI S27 a45 0 t1).bind fun v46 => (gO S27 t0 [8]).bind fun q48 => (fMo_put t0 v46 v10 S27).bind fun S47 => some (v10, S47)
section RQ
variable {b t nr np j i : Nat} {E : Nat → Nat → Nat} {al ln d off ls : Nat → Nat} {tb : Nat → Nat → Nat → Nat} {cur : Nat → Option Nat} {q : Nat → List Nat} {X Y X2 Y2 : Xs}
theorem acc_step (hI : Inv b t nr np E al ln d off ls tb cur q X Y) (hi : i < nr) (hu : E 1 i = 0) (hj : j < 2) (hni : i ∉ (cur j).toList ++ q j) : ∃ X' Y' q', fPl_accept_L14 b (b + E 0 i) (nI j, wX b X) = some (.inl (nI (j + 1), wX b X')) ∧ fMo_request_L126 (b + 56) (nI i) (nI j, wX b Y) = some (.inl (nI (j + 1), wX b Y')) ∧ Inv b t nr np E al ln d off ls tb cur q' X' Y' ∧ (∀ j', j' ≠ j → q' j' = q j') ∧ CK X X' ∧ MK Y Y' := by
  have hlin := li_of hj
  have ej : ax (nI j) 2 = some j := ax_of hj (by decide) rfl
  obtain ⟨ql, gl⟩ := Li_o (b := b) (X := X) hlin
  have hl4 := (hI.2.2.2.1 j hj).1.1
  have a81 : aI (wX b Y) (b + 81) 0 (nI j) = some (nI (q j).length) := by rw [mo_a81, bs ej, (hI.2.2.2.1 j hj).1.2.2.2]
  have preC : ∀ r S', fLi_enqueue (b + (33 + 8 * j)) (b + E 0 i) (wX b X) = some (r, S') → fPl_accept_L14 b (b + E 0 i) (nI j, wX b X) = some (.inl (nI (j + 1), S')) := by
    intro r S' h
    unfold fPl_accept_L14
    dsimp only
    rw [if_neg (by rw [ge_2 (by omega)]; omega), bs pl_r1, Option.bind_some, la_r, bs ej, if_pos hj, Option.bind_some, Option.bind_some, bs gl, bs h]
    dsimp only
    rw [nI_1]
  have preM : ∀ R, (if (4 : Int32) ≤ nI (q j).length then some (.inl (nI j + 1, wX b Y)) else (fMo_put (b + 56) (nI j) (nI i) (wX b Y)).bind fun S62 => some (.inl (nI j + 1, S62))) = R → fMo_request_L126 (b + 56) (nI i) (nI j, wX b Y) = R := by
    intro R hR
    unfold fMo_request_L126
    dsimp only
    rw [if_neg (by rw [ge_2 (by omega)]; omega), bs mo_r28, Option.bind_some, bs a81, bs mo_o]
    exact hR
  by_cases hfull : (q j).length < 4
  · have hon : onL nr np E al ln j Y i := ⟨Or.inl hi, fun h => absurd hu h⟩
    obtain ⟨n1, n2, n3⟩ := enq_inv hI hj hfull hni hon
    refine ⟨_, _, _, preC _ _ n1, preM _ ?_, n3, fun j' e => stF_o e, CK.of (ps := [33 + 8 * j, 33 + 8 * j + 7]) ((Ch.rf.sR (by simp)).sI (by simp)) (by intro p hp; simp only [List.mem_cons, List.not_mem_nil, or_false] at hp; omega), MK.of (ps := [80, 81]) ((Ch.rf.sI (by simp)).sI (by simp)) (by intro p hp; simp only [List.mem_cons, List.not_mem_nil, or_false] at hp; omega)⟩
    rw [if_neg (by rw [ge_4 (by omega)]; omega), bs n2, nI_1]
  · refine ⟨X, Y, q, preC _ _ (enq_full hI hj hfull), preM _ ?_, hI, fun _ _ => rfl, CK.rf, MK.rf⟩
    rw [if_pos (by rw [ge_4 (by omega)]; omega), nI_1]
theorem accept_step (hI : Inv b t nr np E al ln d off ls tb cur q X Y) (hi : i < nr) (hz : Z0 Y i) (hno : ∀ j, j < 2 → i ∉ (cur j).toList ++ q j) : ∃ X' Y', fPl_accept b (b + E 0 i) (wX b X) = some (wX b X') ∧ mrq (b + 56) (nI i) (nI (E 1 i)) (wX b Y) = some (nI i, wX b Y') ∧ Rel b t X' Y' ∧ CK X X' ∧ MK Y Y' := by
  have h64 := hI.1.1
  have hq := hI.2.2.1.1 i (Or.inl hi)
  have hrq := hq.2.2.1 (by omega)
  have hre : isRe X (E 0 i) := hrq.1
  have ho92 := hre.1
  have a8 : X.I (E 0 i) 7 = Y.I 72 i := hrq.2.2.2.2.2.2.2.1
  have ei : ax (nI i) 64 = some i := ax_of (by omega) (by decide) rfl
  obtain ⟨qr, gr⟩ := re_o (b := b) hre
  obtain ⟨qp, gp⟩ := pl_o (b := b) (X := X)
  have hu := hq.1.2.2.1
  have hB : fJo_isBroadcast (b + E 0 i) (wX b X) = some (if E 1 i = 0 then 1 else 0, wX b X) := by
    unfold fJo_isBroadcast
    rw [bs hq.1.g1]
    by_cases h : E 1 i = 0
    · rw [if_pos (by rw [h]; rfl), bs bz_1, if_pos h]
    · rw [if_neg (by rw [q_0 (by omega)]; exact h), bs bz_0, if_neg h]
  have hno' : ∀ j, j < 2 → ∀ k, k ∈ (cur j).toList ++ q j → E 1 k ≠ 0 → k ≠ i := fun j hj k hk _ e => hno j hj (e ▸ hk)
  by_cases h : E 1 i = 0
  · have hin := set_inv hI hi (X2 := X.sI (E 0 i) 6 3) (Y2 := Y.sI 71 i 3) (Ch.rf.sI (by simp)) (fun k h6 _ => by rw [sI_I, up2_k h6]) rfl (Ch.rf.sI (by simp)) (fun k hk => ⟨by rw [sI_I, up2_k hk], by rw [sI_I, up2_o (by decide)]⟩) (by rw [sI_I, up2_s, sI_I, up2_s]) (by rw [sI_I, up2_k (by decide), sI_I, up2_o (by decide)]; exact a8) hno'
    obtain ⟨X1, Y1, q1, c1, m1, I1, o1, ck1, mk1⟩ := acc_step hin hi h (j := 0) (by omega) (hno 0 (by omega))
    obtain ⟨X3, Y3, q3, c2, m2, I2, o2, ck2, mk2⟩ := acc_step I1 hi h (j := 1) (by omega) (by rw [o1 1 (by decide)]; exact hno 1 (by omega))
    have c3 : fPl_accept_L14 b (b + E 0 i) (nI 2, wX b X3) = some (.inr (wX b X3)) := by
      unfold fPl_accept_L14
      dsimp only
      rw [if_pos (by decide)]
    have m3 : fMo_request_L126 (b + 56) (nI i) (nI 2, wX b Y3) = some (.inr (wX b Y3)) := by
      unfold fMo_request_L126
      dsimp only
      rw [if_pos (by decide)]
    have lc : lp (fPl_accept_L14 b (b + E 0 i)) 1000 ((0 : Int32), wX b (X.sI (E 0 i) 6 3)) = some (wX b X3) := (lp_l (N := 999) c1).trans ((lp_l (N := 998) c2).trans (lp_r (N := 997) c3))
    have lm : lp (fMo_request_L126 (b + 56) (nI i)) 1000 ((0 : Int32), wX b (Y.sI 71 i 3)) = some (wX b Y3) := (lp_l (N := 999) m1).trans ((lp_l (N := 998) m2).trans (lp_r (N := 997) m3))
    refine ⟨X3, Y3, ?_, ?_, I2.rel, ((CK.of (ps := [E 0 i]) (Ch.rf.sI (by simp)) (by intro p hp; simp only [List.mem_cons, List.not_mem_nil, or_false] at hp; omega)).tr ck1).tr ck2, ((MK.of (ps := [71]) (Ch.rf.sI (by simp)) (by intro p hp; simp only [List.mem_cons, List.not_mem_nil, or_false] at hp; omega)).tr mk1).tr mk2⟩
    · unfold fPl_accept
      rw [bs gr, bs hB]
      dsimp only
      rw [if_neg (show ¬ (if E 1 i = 0 then (1 : Int32) else 0) = 0 by rw [if_pos h]; decide), bs (re_p6 hre), bs lc]
    · unfold mrq
      rw [if_pos (show nI (E 1 i) = (0 : Int32) by rw [h]; rfl), bs mo_r16, Option.bind_some, mo_s71, ei, Option.bind_some, Option.bind_some, bs lm]
  · have preC : ∀ R, ((fPl_enqueue b (b + E 0 i) (wX b X)).bind fun (v5, S4) => if v5 = 0 then (gO S4 (b + E 0 i) [4]).bind fun q8 => (fRe_refuse (b + E 0 i) (10 : Int32) S4).bind fun S7 => some S7 else some S4) = R → fPl_accept b (b + E 0 i) (wX b X) = R := by
      intro R hR
      unfold fPl_accept
      rw [bs gr, bs hB]
      dsimp only
      rw [if_pos (show (if E 1 i = 0 then (1 : Int32) else 0) = 0 by rw [if_neg h]), bs gp]
      exact hR
    have hn0 : ¬ nI (E 1 i) = (0 : Int32) := by rw [q_0 (by omega)]; exact h
    have hin := set_inv hI hi (X2 := (X.sI (E 0 i) 6 2).sI (E 0 i) 7 10) (Y2 := (Y.sI 71 i 2).sI 72 i 10) ((Ch.rf.sI (by simp)).sI (by simp)) (fun k h6 h7 => by rw [sI_I, up2_k h7, sI_I, up2_k h6]) rfl ((Ch.rf.sI (by simp)).sI (by simp)) (fun k hk => ⟨by rw [sI_I, up2_o (by decide), sI_I, up2_k hk], by rw [sI_I, up2_k hk, sI_I, up2_o (by decide)]⟩) (by rw [sI_I, up2_k (by decide), sI_I, up2_s, sI_I, up2_o (by decide), sI_I, up2_s]) (by rw [sI_I, up2_s, sI_I, up2_s]) hno'
    have refC : fPl_enqueue b (b + E 0 i) (wX b X) = some (0, wX b X) → fPl_accept b (b + E 0 i) (wX b X) = some (wX b ((X.sI (E 0 i) 6 2).sI (E 0 i) 7 10)) := by
      intro he
      have hre2 : isRe (X.sI (E 0 i) 6 2) (E 0 i) := (Ch.rf.sI (ps := [E 0 i]) (by simp)).re hre
      refine preC _ ?_
      rw [bs he]
      dsimp only
      rw [if_pos rfl, bs gr]
      unfold fRe_refuse
      rw [bs (re_p6 hre), bs (re_p7 hre2), Option.bind_some]
    have refM : fMo_request_J190_1 (b + 56) (nI i) (wX b Y) = some (nI i, wX b ((Y.sI 71 i 2).sI 72 i 10)) := by
      unfold fMo_request_J190_1
      rw [bs mo_r16, Option.bind_some, mo_s71, ei, Option.bind_some, Option.bind_some, bs mo_r17, Option.bind_some, mo_s72, ei, Option.bind_some, Option.bind_some]
    have refX : CK X ((X.sI (E 0 i) 6 2).sI (E 0 i) 7 10) := CK.of (ps := [E 0 i]) ((Ch.rf.sI (by simp)).sI (by simp)) (by intro p hp; simp only [List.mem_cons, List.not_mem_nil, or_false] at hp; omega)
    have refY : MK Y ((Y.sI 71 i 2).sI 72 i 10) := MK.of (ps := [71, 72]) ((Ch.rf.sI (by simp)).sI (by simp)) (by intro p hp; simp only [List.mem_cons, List.not_mem_nil, or_false] at hp; omega)
    by_cases hat : 1 ≤ E 1 i ∧ E 1 i ≤ 6 ∧ al (E 1 i - 1) = 1
    · have hs : E 1 i - 1 < 6 := by omega
      have es : E 1 i - 1 + 1 = E 1 i := by omega
      obtain ⟨j, hjd⟩ : ∃ j, j = ln (E 1 i - 1) := ⟨_, rfl⟩
      have hj : j < 2 := by rw [hjd]; exact (hI.2.1.1 _ hs).2.1
      have ej : ax (nI j) 2 = some j := ax_of hj (by decide) rfl
      have e7 : ax (nI (E 1 i)) 7 = some (E 1 i) := ax_of (by omega) (by decide) rfl
      have a57 : aI (wX b Y) (b + 57) 1 (nI (E 1 i)) = some (nI 1) := by
        have := (hI.2.1.2.2 _ hs).1
        rw [es, hat.2.2] at this
        rw [mo_a57, bs e7, this]
      have a58 : aI (wX b Y) (b + 58) 0 (nI (E 1 i)) = some (nI j) := by
        have := (hI.2.1.2.2 _ hs).2.1
        rw [es] at this
        rw [mo_a58, bs e7, this, hjd]
      have a81 : aI (wX b Y) (b + 81) 0 (nI j) = some (nI (q j).length) := by rw [mo_a81, bs ej, (hI.2.2.2.1 j hj).1.2.2.2]
      have hl4 := (hI.2.2.2.1 j hj).1.1
      have preM : ∀ R, (if nI (q j).length = (4 : Int32) then fMo_request_J190_1 (b + 56) (nI i) (wX b Y) else (fMo_put (b + 56) (nI j) (nI i) (wX b Y)).bind fun S47 => some (nI i, S47)) = R → mrq (b + 56) (nI i) (nI (E 1 i)) (wX b Y) = R := by
        intro R hR
        unfold mrq
        rw [if_neg hn0, if_neg (by rw [g_6 (by omega)]; omega), bs mo_r1, Option.bind_some, bs a57, if_neg (by decide), bs mo_r28, bs mo_r2, Option.bind_some, bs a58, Option.bind_some, bs a81, bs mo_r2, Option.bind_some, bs a58, bs mo_o]
        exact hR
      by_cases hfull : (q j).length < 4
      · have hon : onL nr np E al ln j Y i := ⟨Or.inl hi, fun _ => ⟨hat.2.1, hat.2.2, hjd.symm, fun _ => hz⟩⟩
        obtain ⟨n1, n2, n3⟩ := enq_inv hI hj hfull (hno j hj) hon
        rw [hjd] at n1
        have n1 := c_enqY hI hq.1 hat (Or.inr rfl) n1
        rw [← hjd] at n1
        refine ⟨_, _, preC _ ?_, preM _ ?_, n3.rel, CK.of (ps := [33 + 8 * j, 33 + 8 * j + 7]) ((Ch.rf.sR (by simp)).sI (by simp)) (by intro p hp; simp only [List.mem_cons, List.not_mem_nil, or_false] at hp; omega), MK.of (ps := [80, 81]) ((Ch.rf.sI (by simp)).sI (by simp)) (by intro p hp; simp only [List.mem_cons, List.not_mem_nil, or_false] at hp; omega)⟩
        · rw [bs n1]
          dsimp only
          rw [if_neg (by decide)]
        · rw [if_neg (by rw [q_4 (by omega)]; omega), bs n2]
      · have n1 := enq_full hI hj hfull (o := E 0 i)
        rw [hjd] at n1
        have n1 := c_enqY hI hq.1 hat (Or.inl rfl) n1
        refine ⟨_, _, refC n1, preM _ ?_, hin.rel, refX, refY⟩
        rw [if_pos (show nI (q j).length = (4 : Int32) by rw [q_4 (by omega)]; omega), refM]
    · refine ⟨_, _, refC (c_enqN hI hq.1 hat), ?_, hin.rel, refX, refY⟩
      unfold mrq
      rw [if_neg hn0]
      by_cases h6 : 6 < E 1 i
      · rw [if_pos (by rw [g_6 (by omega)]; exact h6), refM]
      · have hs : E 1 i - 1 < 6 := by omega
        have es : E 1 i - 1 + 1 = E 1 i := by omega
        have h2 := (hI.2.1.1 _ hs).1
        have h0 : al (E 1 i - 1) = 0 := by
          have : ¬ al (E 1 i - 1) = 1 := fun e => hat ⟨by omega, by omega, e⟩
          omega
        have a57 : aI (wX b Y) (b + 57) 1 (nI (E 1 i)) = some (nI 0) := by
          have := (hI.2.1.2.2 _ hs).1
          rw [es, h0] at this
          rw [mo_a57, bs (ax_of (show E 1 i < 7 by omega) (by decide) rfl), this]
        rw [if_neg (by rw [g_6 (by omega)]; exact h6), bs mo_r1, Option.bind_some, bs a57, if_pos (show nI 0 = (0 : Int32) from rfl), refM]
theorem request_new (hI : Inv b t nr np E al ln d off ls tb cur q X Y) {u f a c v : Nat} (hu : u ≤ 247) (f1 : 1 ≤ f) (f127 : f ≤ 127) (ha : a ≤ 65535) (hc : c ≤ 16) (hv : v < 2 ^ 64) (h64 : nr < 64) : ∃ X' Y', fPl_request b (nI u) (nI f) (nI a) (nI c) (lN v) (wX b X) = some (nI nr, wX b X') ∧ fMo_request (b + 56) (nI u) (nI f) (nI a) (nI c) (lN v) (wX b Y) = some (nI nr, wX b Y') ∧ Rel b t X' Y' ∧ CK X X' ∧ MK Y Y' := by
  have g5 : gI (wX b X) b [7] 5 = some (nI nr) := by rw [pl_i5, hI.1.2.2.2.1]
  have y10 := hI.1.2.2.2.2.2.2.2.1
  have i10 : gI (wX b Y) (b + 56) [8] 10 = some (nI nr) := by rw [mo_i10, y10]
  have w1 : fMo_within (nI u) (0 : Int32) (247 : Int32) (wX b Y) = some (1, wX b Y) := w_in (lo := 0) (hi := 247) _ (by omega) hu (by decide)
  have w2 : fMo_within (nI f) (1 : Int32) (127 : Int32) (wX b Y) = some (1, wX b Y) := w_in (lo := 1) (hi := 127) _ f1 f127 (by decide)
  have w3 : fMo_within (nI a) (0 : Int32) (65535 : Int32) (wX b Y) = some (1, wX b Y) := w_in (lo := 0) (hi := 65535) _ (by omega) ha (by decide)
  have w4 : fMo_within (nI c) (0 : Int32) (16 : Int32) (wX b Y) = some (1, wX b Y) := w_in (lo := 0) (hi := 16) _ (by omega) hc (by decide)
  have p1 : fPl_isWithin (nI u) (247 : Int32) (wX b X) = some (1, wX b X) := p_in (hi := 247) _ hu (by decide)
  have p3 : fPl_isWithin (nI a) (65535 : Int32) (wX b X) = some (1, wX b X) := p_in (hi := 65535) _ ha (by decide)
  have p4 : fPl_isWithin (nI c) (16 : Int32) (wX b X) = some (1, wX b X) := p_in (hi := 16) _ hc (by decide)
  have e64 : ax (nI nr) 64 = some nr := ax_of h64 (by decide) rfl
  obtain ⟨X1, hX1⟩ : ∃ X1, X1 = X.job 4 (jI (nI nr) (nI u) (nI f) (nI a) (nI c) 0 0) (jJ (lN v) 0) := ⟨_, rfl⟩
  have hnew : fRe_init (wX b X).1 (nI nr) (nI u) (nI f) (nI a) (nI c) (lN v) ((wX b X).add (.inr (4, [.int 0, .int 0, .int 0, .int 0, .int 0, .long 0, .int 0, .int 0, .long 0]))) = some (wX b X1) := by
    rw [re_new, hX1]
    exact congrArg some (job_w rfl)
  have hre : isRe X1 (92 + X.n) := by
    rw [hX1]
    exact (job_c [92 + X.n] (by simp)).re gr_nr
  have hck : ck (wX b X1) (some (wX b X).1) [4] = some () := by
    obtain ⟨qo, go⟩ := re_o (b := b) hre
    show (gO (wX b X1) (b + (92 + X.n)) [4]).bind _ = _
    rw [bs go]
  have hsr : sR (wX b X1) (b + 49) 5 (nI nr) (some (wX b X).1) = some (wX b (X1.sR 49 nr (some (b + (92 + X.n))))) := (ra_s).trans ((bs e64).trans rfl)
  have g5' : gI (wX b (X1.sR 49 nr (some (b + (92 + X.n))))) b [7] 5 = some (nI nr) := by rw [pl_i5, sR_I, hX1, job_oI (by omega), hI.1.2.2.2.1]
  obtain ⟨XX, hXX⟩ : ∃ XX, XX = (X1.sR 49 nr (some (b + (92 + X.n)))).sI 0 5 (nI (nr + 1)) := ⟨_, rfl⟩
  obtain ⟨YY, hYY⟩ : ∃ YY, YY = (((((Y.sI 56 10 (nI (nr + 1))).sI 66 nr (nI u)).sI 67 nr (nI f)).sI 68 nr (nI a)).sI 69 nr (nI c)).sJ 70 nr (lN v) := ⟨_, rfl⟩
  obtain ⟨qp, gp⟩ := pl_o (b := b) (X := XX)
  have hC : ∀ S', fPl_accept b (wX b X).1 (wX b XX) = some S' → fPl_request b (nI u) (nI f) (nI a) (nI c) (lN v) (wX b X) = some (nI nr, S') := by
    intro S' h
    unfold fPl_request
    rw [bs p1]
    dsimp only
    rw [if_neg (by decide), if_neg (show ¬ nI f < (1 : Int32) by rw [l_1 (by omega)]; omega), if_pos (show nI f ≤ (127 : Int32) by rw [le_127 (by omega)]; omega), bs p3]
    dsimp only
    rw [if_neg (by decide), bs p4]
    dsimp only
    rw [if_neg (by decide), bs g5, if_pos (show nI nr < (64 : Int32) by rw [l_64 (by omega)]; omega), bs g5, bs hnew, bs pl_r2, Option.bind_some, bs hck, bs hsr, bs g5', nI_1, bs pl_p5, ← hXX, bs gp, bs h]
  have hM : ∀ R, mrq (b + 56) (nI nr) (nI u) (wX b YY) = R → fMo_request (b + 56) (nI u) (nI f) (nI a) (nI c) (lN v) (wX b Y) = R := by
    intro R hR
    unfold fMo_request
    rw [bs w1]
    dsimp only
    rw [if_neg (by decide), bs w2]
    dsimp only
    rw [if_neg (by decide), bs w3]
    dsimp only
    rw [if_neg (by decide), bs w4]
    dsimp only
    rw [if_neg (by decide), bs i10, if_neg (show ¬ nI nr = (64 : Int32) by rw [q_64 (by omega)]; omega), bs i10, bs i10, nI_1, bs mo_p10, bs mo_r11, Option.bind_some, mo_s66, e64, Option.bind_some, Option.bind_some, bs mo_r12, Option.bind_some, mo_s67, e64, Option.bind_some, Option.bind_some, bs mo_r13, Option.bind_some, mo_s68, e64, Option.bind_some, Option.bind_some, bs mo_r14, Option.bind_some, mo_s69, e64, Option.bind_some, Option.bind_some, bs mo_r15, Option.bind_some, mo_s70, e64, Option.bind_some, Option.bind_some, ← hYY]
    exact hR
  obtain ⟨E', hE'⟩ : ∃ E', E' = exE E nr (jw (92 + X.n) u f a c v) := ⟨_, rfl⟩
  have e0 : E' 0 nr = 92 + X.n := by rw [hE']; exact exE_s
  have e1 : E' 1 nr = u := by rw [hE']; exact exE_s
  have e2 : E' 2 nr = f := by rw [hE']; exact exE_s
  have e3 : E' 3 nr = a := by rw [hE']; exact exE_s
  have e4 : E' 4 nr = c := by rw [hE']; exact exE_s
  have e5 : E' 5 nr = v := by rw [hE']; exact exE_s
  have eo : ∀ i, i ≠ nr → ∀ c, E' c i = E c i := by
    intro i h c
    rw [hE', exE_o h]
  have hcX : Ch [0, 49, 50, 92 + X.n] (X.gr 4) XX := by
    rw [hXX, hX1]
    exact ((job_c _ (by simp)).sR (by simp)).sI (by simp)
  have hcY : Ch [56, 66, 67, 68, 69, 70] Y YY := by
    rw [hYY]
    exact (((((Ch.rf.sI (by simp)).sI (by simp)).sI (by simp)).sI (by simp)).sI (by simp)).sJ (by simp)
  have x0 : ∀ k, k ≠ 5 → XX.I 0 k = X.I 0 k := fun k hk => by rw [hXX, sI_I, up2_k hk, sR_I, hX1, job_oI (by omega)]
  have y0 : ∀ k, k ≠ 10 → YY.I 56 k = Y.I 56 k := fun k hk => by rw [hYY, sJ_I, sI_I, up2_o (by decide), sI_I, up2_o (by decide), sI_I, up2_o (by decide), sI_I, up2_o (by decide), sI_I, up2_k hk]
  have xo : XX.I (92 + X.n) = jI (nI nr) (nI u) (nI f) (nI a) (nI c) 0 0 := by rw [hXX, sI_I, up2_row (by omega), sR_I, hX1, job_I]
  have xJ : XX.J (92 + X.n) = jJ (lN v) 0 := by rw [hXX, sI_J, sR_J, hX1, job_J]
  have y66 : ∀ k, YY.I 66 k = if k = nr then nI u else Y.I 66 k := by
    intro k
    rw [hYY, sJ_I, sI_I, up2_o (by decide), sI_I, up2_o (by decide), sI_I, up2_o (by decide), sI_I]
    by_cases e : k = nr
    · rw [if_pos e, e, up2_s]
    · rw [if_neg e, up2_k e, sI_I, up2_o (by decide)]
  have y67 : ∀ k, YY.I 67 k = if k = nr then nI f else Y.I 67 k := by
    intro k
    rw [hYY, sJ_I, sI_I, up2_o (by decide), sI_I, up2_o (by decide), sI_I]
    by_cases e : k = nr
    · rw [if_pos e, e, up2_s]
    · rw [if_neg e, up2_k e, sI_I, up2_o (by decide), sI_I, up2_o (by decide)]
  have y68 : ∀ k, YY.I 68 k = if k = nr then nI a else Y.I 68 k := by
    intro k
    rw [hYY, sJ_I, sI_I, up2_o (by decide), sI_I]
    by_cases e : k = nr
    · rw [if_pos e, e, up2_s]
    · rw [if_neg e, up2_k e, sI_I, up2_o (by decide), sI_I, up2_o (by decide), sI_I, up2_o (by decide)]
  have y69 : ∀ k, YY.I 69 k = if k = nr then nI c else Y.I 69 k := by
    intro k
    rw [hYY, sJ_I, sI_I]
    by_cases e : k = nr
    · rw [if_pos e, e, up2_s]
    · rw [if_neg e, up2_k e, sI_I, up2_o (by decide), sI_I, up2_o (by decide), sI_I, up2_o (by decide), sI_I, up2_o (by decide)]
  have y70 : ∀ k, YY.J 70 k = if k = nr then lN v else Y.J 70 k := by
    intro k
    rw [hYY, sJ_J]
    by_cases e : k = nr
    · rw [if_pos e, e, up2_s]
    · rw [if_neg e, up2_k e, sI_J, sI_J, sI_J, sI_J, sI_J]
  have hz : Z0 YY nr := by
    unfold Z0
    rw [(hcY.2.2 71 (by simp)).1, (hcY.2.2 72 (by simp)).1, (hcY.2.2 73 (by simp)).2.2]
    exact hI.2.2.1.2.2.2.2.2 nr (Nat.le_refl _) h64
  have hin : Inv b t (nr + 1) np E' al ln d off ls tb cur q XX YY := by
    refine adopt (grow hI 4) (i0 := nr) (fun i => by unfold liveJ; omega) (by unfold liveJ; omega) eo (fun i hi => ?_) (by rw [e0]; omega) (by rw [e0]; exact hcX) (hcY.mono (by intro p hp; simp only [List.mem_cons, List.not_mem_nil, or_false] at hp ⊢; omega)) ⟨by omega, hI.1.2.1, hI.1.2.2.1, ?_, ?_, ?_, ?_, ?_, ?_⟩ (y0 25 (by decide)) ?_ (fun k hk => ⟨fun p h1 h2 => ?_, ?_⟩) (fun k hk p h1 h2 => ?_) (fun i hi => ?_) (fun p hp => ?_) (fun i h1 h2 => ?_) (fun i h => by omega)
    · have := (hI.2.2.1.1 i hi).1.1.2.1
      rw [e0]; omega
    · rw [hXX, sI_I, up2_s]
    · rw [x0 6 (by decide)]; exact hI.1.2.2.2.2.1
    · rw [x0 7 (by decide)]; exact hI.1.2.2.2.2.2.1
    · rw [y0 0 (by decide)]; exact hI.1.2.2.2.2.2.2.1
    · rw [hYY, sJ_I, sI_I, up2_o (by decide), sI_I, up2_o (by decide), sI_I, up2_o (by decide), sI_I, up2_o (by decide), sI_I, up2_s]
    · rw [y0 19 (by decide)]; exact hI.1.2.2.2.2.2.2.2.2
    · unfold JQ
      rw [e0, e1, e2, e3, e4, e5]
      refine ⟨⟨(hcX.re gr_nr).jo, ⟨by rw [xo]; rfl, by rw [xo]; rfl, by rw [xo]; rfl, by rw [xo]; rfl, by rw [xJ]; rfl⟩, by omega, by omega, by omega, by omega, by omega, hv⟩, by rw [xo]; rfl, fun _ => ⟨hcX.re gr_nr, by rw [y66, if_pos rfl], by rw [y67, if_pos rfl], by rw [y68, if_pos rfl], by rw [y69, if_pos rfl], by rw [y70, if_pos rfl], by rw [xo, hz.1]; rfl, by rw [xo, hz.2.1]; rfl, by rw [xJ, hz.2.2]; rfl⟩, fun h => by omega⟩
    · have hp : p = 66 ∨ p = 67 ∨ p = 68 ∨ p = 69 := by omega
      rcases hp with rfl | rfl | rfl | rfl
      · rw [y66, if_neg hk]
      · rw [y67, if_neg hk]
      · rw [y68, if_neg hk]
      · rw [y69, if_neg hk]
    · rw [y70, if_neg hk]
    · rw [(hcY.2.2 p (by simp; omega)).1]
    · by_cases e : i = nr
      · subst e
        rw [hXX, sI_R, sR_R, up2_s, e0]
      · rw [hXX, sI_R, sR_R, up2_k e, hX1, eo i e 0]
        exact hI.2.2.1.2.1 i (by omega)
    · rw [hXX, sI_R, sR_R, up2_o (by decide), hX1, eo (64 + p) (by omega) 0]
      exact hI.2.2.1.2.2.1 p hp
    · rw [eo i (by omega) 1]; exact hI.2.2.1.2.2.2.2.1 i h1 h2
  have hno : ∀ j, j < 2 → nr ∉ (cur j).toList ++ q j := by
    intro j hj hm
    have := ((hI.2.2.2.1 j hj).2.2.2.2.1 nr hm).1
    unfold liveJ at this
    omega
  obtain ⟨X', Y', a1, a2, a3, a4, a5⟩ := accept_step hin (i := nr) (by omega) hz hno
  rw [e0] at a1
  rw [e1] at a2
  refine ⟨X', Y', hC _ a1, hM _ a2, a3, CK.tr ?_ a4, (MK.of hcY (by intro p hp; simp only [List.mem_cons, List.not_mem_nil, or_false] at hp; omega)).tr a5⟩
  rw [hXX, hX1]
  exact job_ck.tr (CK.of (ps := [0, 49]) ((Ch.rf.sR (by simp)).sI (by simp)) (by intro p hp; simp only [List.mem_cons, List.not_mem_nil, or_false] at hp; omega))
theorem request_step (hI : Inv b t nr np E al ln d off ls tb cur q X Y) (x y z w : Int32) (s : Int64) : ∃ X' Y' r, fPl_request b x y z w s (wX b X) = some (r, wX b X') ∧ fMo_request (b + 56) x y z w s (wX b Y) = some (r, wX b Y') ∧ Rel b t X' Y' ∧ CK X X' ∧ MK Y Y' := by
  obtain ⟨v, hv, rfl⟩ := wb_of s
  have h64' := hI.1.1
  have g5 : gI (wX b X) b [7] 5 = some (nI nr) := by rw [pl_i5, hI.1.2.2.2.1]
  have i10 : gI (wX b Y) (b + 56) [8] 10 = some (nI nr) := by rw [mo_i10, hI.1.2.2.2.2.2.2.2.1]
  rcases tri x (lo := 0) (hi := 247) (by omega) (by omega) with ⟨u, -, hu, rfl⟩ | h
  · have w1 : fMo_within (nI u) (0 : Int32) (247 : Int32) (wX b Y) = some (1, wX b Y) := w_in (lo := 0) (hi := 247) _ (by omega) hu (by decide)
    have p1 : fPl_isWithin (nI u) (247 : Int32) (wX b X) = some (1, wX b X) := p_in (hi := 247) _ hu (by decide)
    rcases tri y (lo := 1) (hi := 127) (by omega) (by omega) with ⟨f, f1, f127, rfl⟩ | h
    · have w2 : fMo_within (nI f) (1 : Int32) (127 : Int32) (wX b Y) = some (1, wX b Y) := w_in (lo := 1) (hi := 127) _ f1 f127 (by decide)
      have c1 : ¬ nI f < (1 : Int32) := by rw [l_1 (by omega)]; omega
      have c2 : nI f ≤ (127 : Int32) := by rw [le_127 (by omega)]; omega
      rcases tri z (lo := 0) (hi := 65535) (by omega) (by omega) with ⟨a, -, ha, rfl⟩ | h
      · have w3 : fMo_within (nI a) (0 : Int32) (65535 : Int32) (wX b Y) = some (1, wX b Y) := w_in (lo := 0) (hi := 65535) _ (by omega) ha (by decide)
        have p3 : fPl_isWithin (nI a) (65535 : Int32) (wX b X) = some (1, wX b X) := p_in (hi := 65535) _ ha (by decide)
        rcases tri w (lo := 0) (hi := 16) (by omega) (by omega) with ⟨c, -, hc, rfl⟩ | h
        · by_cases h64 : nr < 64
          · obtain ⟨X', Y', r1, r2, r3⟩ := request_new hI hu f1 f127 ha hc hv h64
            exact ⟨X', Y', _, r1, r2, r3⟩
          · have w4 : fMo_within (nI c) (0 : Int32) (16 : Int32) (wX b Y) = some (1, wX b Y) := w_in (lo := 0) (hi := 16) _ (by omega) hc (by decide)
            have p4 : fPl_isWithin (nI c) (16 : Int32) (wX b X) = some (1, wX b X) := p_in (hi := 16) _ hc (by decide)
            refine ⟨X, Y, -1, ?_, ?_, hI.rel, CK.rf, MK.rf⟩
            · unfold fPl_request
              rw [bs p1]
              dsimp only
              rw [if_neg (by decide), if_neg c1, if_pos c2, bs p3]
              dsimp only
              rw [if_neg (by decide), bs p4]
              dsimp only
              rw [if_neg (by decide), bs g5, if_neg (by rw [l_64 (by omega)]; exact h64)]
            · unfold fMo_request
              rw [bs w1]
              dsimp only
              rw [if_neg (by decide), bs w2]
              dsimp only
              rw [if_neg (by decide), bs w3]
              dsimp only
              rw [if_neg (by decide), bs w4]
              dsimp only
              rw [if_neg (by decide), bs i10, if_pos (show nI nr = (64 : Int32) by rw [q_64 (by omega)]; omega)]
        · have w4 : fMo_within w (0 : Int32) (16 : Int32) (wX b Y) = some (0, wX b Y) := w_out _ h
          have p4 : fPl_isWithin w (16 : Int32) (wX b X) = some (0, wX b X) := p_out _ h
          refine ⟨X, Y, -1, ?_, ?_, hI.rel, CK.rf, MK.rf⟩
          · unfold fPl_request
            rw [bs p1]
            dsimp only
            rw [if_neg (by decide), if_neg c1, if_pos c2, bs p3]
            dsimp only
            rw [if_neg (by decide), bs p4]
            dsimp only
            rw [if_pos rfl]
          · unfold fMo_request
            rw [bs w1]
            dsimp only
            rw [if_neg (by decide), bs w2]
            dsimp only
            rw [if_neg (by decide), bs w3]
            dsimp only
            rw [if_neg (by decide), bs w4]
            dsimp only
            rw [if_pos rfl]
      · have w3 : fMo_within z (0 : Int32) (65535 : Int32) (wX b Y) = some (0, wX b Y) := w_out _ h
        have p3 : fPl_isWithin z (65535 : Int32) (wX b X) = some (0, wX b X) := p_out _ h
        refine ⟨X, Y, -1, ?_, ?_, hI.rel, CK.rf, MK.rf⟩
        · unfold fPl_request
          rw [bs p1]
          dsimp only
          rw [if_neg (by decide), if_neg c1, if_pos c2, bs p3]
          dsimp only
          rw [if_pos rfl]
        · unfold fMo_request
          rw [bs w1]
          dsimp only
          rw [if_neg (by decide), bs w2]
          dsimp only
          rw [if_neg (by decide), bs w3]
          dsimp only
          rw [if_pos rfl]
    · have w2 : fMo_within y (1 : Int32) (127 : Int32) (wX b Y) = some (0, wX b Y) := w_out _ h
      have h : y < (1 : Int32) ∨ (127 : Int32) < y := h
      refine ⟨X, Y, -1, ?_, ?_, hI.rel, CK.rf, MK.rf⟩
      · unfold fPl_request
        rw [bs p1]
        dsimp only
        rw [if_neg (by decide)]
        by_cases e : y < 1
        · rw [if_pos e]
        · rw [if_neg e, if_neg (Int32.not_le.mpr (h.resolve_left e))]
      · unfold fMo_request
        rw [bs w1]
        dsimp only
        rw [if_neg (by decide), bs w2]
        dsimp only
        rw [if_pos rfl]
  · have w1 : fMo_within x (0 : Int32) (247 : Int32) (wX b Y) = some (0, wX b Y) := w_out _ h
    have p1 : fPl_isWithin x (247 : Int32) (wX b X) = some (0, wX b X) := p_out _ h
    refine ⟨X, Y, -1, ?_, ?_, hI.rel, CK.rf, MK.rf⟩
    · unfold fPl_request
      rw [bs p1]
      dsimp only
      rw [if_pos rfl]
    · unfold fMo_request
      rw [bs w1]
      dsimp only
      rw [if_pos rfl]
end RQ
