/-! attach, power, fault, reply, line. -/
section CA
variable {b t nr np j i : Nat} {E : Nat → Nat → Nat} {al ln d off ls : Nat → Nat} {tb : Nat → Nat → Nat → Nat} {cur : Nat → Option Nat} {q : Nat → List Nat} {X Y X2 Y2 : Xs}
theorem attach_step (hI : Inv b t nr np E al ln d off ls tb cur q X Y) (x y z : Int32) : ∃ X' Y' r, fPl_attach b x y z (wX b X) = some (r, wX b X') ∧ fMo_attach (b + 56) x y z (wX b Y) = some (r, wX b Y') ∧ Rel b t X' Y' ∧ CK X X' ∧ MK Y Y' := by
  rcases tri x (lo := 1) (hi := 6) (by omega) (by omega) with ⟨n, n1, n6, rfl⟩ | h
  · have hs : n - 1 < 6 := by omega
    have en : n - 1 + 1 = n := by omega
    have em : nI n - (1 : Int32) = nI (n - 1) := pk_sub (b := 1) (by omega)
    have w1 : fMo_within (nI n) (1 : Int32) (6 : Int32) (wX b Y) = some (1, wX b Y) := w_in (lo := 1) (hi := 6) _ n1 n6 (by decide)
    rcases tri y (lo := 0) (hi := 1) (by omega) (by omega) with ⟨l, l0, l1, rfl⟩ | h
    · have w2 : fMo_within (nI l) (0 : Int32) (1 : Int32) (wX b Y) = some (1, wX b Y) := w_in (lo := 0) (hi := 1) _ l0 l1 (by decide)
      rcases tri z (lo := 0) (hi := 5) (by omega) (by omega) with ⟨dd, d0, d5, rfl⟩ | h
      · have w3 : fMo_within (nI dd) (0 : Int32) (5 : Int32) (wX b Y) = some (1, wX b Y) := w_in (lo := 0) (hi := 5) _ d0 d5 (by decide)
        have p3 : fPl_isWithin (nI dd) (5 : Int32) (wX b X) = some (1, wX b X) := p_in (hi := 5) _ d5 (by decide)
        have hp := isSl_of hs
        obtain ⟨qs, gs⟩ := Sl_o (b := b) (X := X) hp
        have hS := hI.2.1
        have hsl := hS.2.2 _ hs
        have hV := hS.1 _ hs
        have e7 : ax (nI n) 7 = some n := ax_of (by omega) (by decide) rfl
        have a57 : aI (wX b Y) (b + 57) 1 (nI n) = some (nI (al (n - 1))) := by
          have := hsl.1
          rw [en] at this
          rw [mo_a57, bs e7, this]
        have preC : ∀ R, (if (if al (n - 1) = 1 then (1 : Int32) else 0) = 0 then (pV (wX b X) (b + (2 + 5 * (n - 1))) [5] 5 (.int (nI l))).bind fun S16 => (pV S16 (b + (2 + 5 * (n - 1))) [5] 6 (.int (nI dd))).bind fun S17 => (bz (1 : Int32)).bind fun z18 => some ((1 : Int32), S17) else (bz (0 : Int32)).bind fun z19 => some ((0 : Int32), wX b X)) = R → fPl_attach b (nI n) (nI l) (nI dd) (wX b X) = R := by
          intro R hR
          unfold fPl_attach
          rw [bs (s_in _ n1 n6)]
          dsimp only
          rw [if_neg (by decide), bs (l_in _ (by omega))]
          dsimp only
          rw [if_neg (by decide), bs p3]
          dsimp only
          rw [if_neg (by decide), bs pl_r0, Option.bind_some, em, sa_r, bs (ax_of hs (by decide) rfl), if_pos hs, Option.bind_some, Option.bind_some, bs gs, bs (c_isAt hS hs)]
          exact hR
        have preM : ∀ R, (if nI (al (n - 1)) = 0 then (gR (wX b Y) (b + 56) [8] 1).bind fun r13 => (r13).bind fun a14 => (bz (1 : Int32)).bind fun z16 => (sI (wX b Y) a14 1 (nI n) (1 : Int32)).bind fun S15 => (gR S15 (b + 56) [8] 2).bind fun r17 => (r17).bind fun a18 => (sI S15 a18 0 (nI n) (nI l)).bind fun S19 => (gR S19 (b + 56) [8] 3).bind fun r20 => (r20).bind fun a21 => (sI S19 a21 0 (nI n) (nI dd)).bind fun S22 => (bz (1 : Int32)).bind fun z23 => some ((1 : Int32), S22) else (bz (0 : Int32)).bind fun z24 => some ((0 : Int32), wX b Y)) = R → fMo_attach (b + 56) (nI n) (nI l) (nI dd) (wX b Y) = R := by
          intro R hR
          unfold fMo_attach
          rw [bs w1]
          dsimp only
          rw [if_neg (by decide), bs w2]
          dsimp only
          rw [if_neg (by decide), bs w3]
          dsimp only
          rw [if_neg (by decide), bs mo_r1, Option.bind_some, bs a57]
          exact hR
        by_cases ha : al (n - 1) = 1
        · refine ⟨X, Y, 0, preC _ ?_, preM _ ?_, hI.rel, CK.rf, MK.rf⟩
          · rw [if_neg (show ¬ (if al (n - 1) = 1 then (1 : Int32) else 0) = 0 by rw [if_pos ha]; decide), bs bz_0]
          · rw [if_neg (by rw [ha]; decide), bs bz_0]
        · have ha0 : al (n - 1) = 0 := by have := hV.1; omega
          let X' := (X.sI (2 + 5 * (n - 1)) 5 (nI l)).sI (2 + 5 * (n - 1)) 6 (nI dd)
          let Y' := ((Y.sI 57 n 1).sI 58 n (nI l)).sI 59 n (nI dd)
          have hX' : Ch [2 + 5 * (n - 1)] X X' := (Ch.rf.sI (by simp)).sI (by simp)
          have hY' : Ch [57, 58, 59] Y Y' := ((Ch.rf.sI (by simp)).sI (by simp)).sI (by simp)
          have y57 : ∀ k, Y'.I 57 k = if k = n then 1 else Y.I 57 k := by
            intro k
            show (((Y.sI 57 n 1).sI 58 n (nI l)).sI 59 n (nI dd)).I 57 k = _
            rw [sI_I, up2_o (by decide), sI_I, up2_o (by decide), sI_I]
            by_cases e : k = n
            · rw [if_pos e, e, up2_s]
            · rw [if_neg e, up2_k e]
          have y58 : ∀ k, Y'.I 58 k = if k = n then nI l else Y.I 58 k := by
            intro k
            show (((Y.sI 57 n 1).sI 58 n (nI l)).sI 59 n (nI dd)).I 58 k = _
            rw [sI_I, up2_o (by decide), sI_I]
            by_cases e : k = n
            · rw [if_pos e, e, up2_s]
            · rw [if_neg e, up2_k e, sI_I, up2_o (by decide)]
          have y59 : ∀ k, Y'.I 59 k = if k = n then nI dd else Y.I 59 k := by
            intro k
            show (((Y.sI 57 n 1).sI 58 n (nI l)).sI 59 n (nI dd)).I 59 k = _
            rw [sI_I]
            by_cases e : k = n
            · rw [if_pos e, e, up2_s]
            · rw [if_neg e, up2_k e, sI_I, up2_o (by decide), sI_I, up2_o (by decide)]
          have hin : Inv b t nr np E (stF al (n - 1) 1) (stF ln (n - 1) l) (stF d (n - 1) dd) off ls tb cur q X' Y' := by
            refine hI.slv (qs := [57, 58, 59]) (hX'.mono (by intro p hp; rw [slR_mem]; simp only [List.mem_cons, List.not_mem_nil, or_false] at hp; omega)) hY' (by intro p hp; simp only [List.mem_cons, List.not_mem_nil, or_false] at hp; omega) ⟨fun s' hs' => ?_, fun s' hs' => ?_, fun s' hs' => ?_⟩ (fun s' hs' h => ?_)
            · by_cases e : s' = n - 1
              · subst e
                rw [stF_s, stF_s, stF_s]
                exact ⟨by omega, by omega, by omega, hV.2.2.2⟩
              · rw [stF_o e, stF_o e, stF_o e]; exact hS.1 s' hs'
            · by_cases e : s' = n - 1
              · subst e
                rw [stF_s, stF_s, stF_s]
                obtain ⟨c0, c5, c6, c7, c8, ct⟩ := hS.2.1 _ hs
                have xk : ∀ k, k ≠ 5 → k ≠ 6 → X'.I (2 + 5 * (n - 1)) k = X.I (2 + 5 * (n - 1)) k := by
                  intro k h5 h6
                  show ((X.sI (2 + 5 * (n - 1)) 5 (nI l)).sI (2 + 5 * (n - 1)) 6 (nI dd)).I (2 + 5 * (n - 1)) k = _
                  rw [sI_I, up2_k h6, sI_I, up2_k h5]
                refine ⟨by rw [xk 0 (by decide) (by decide)]; exact c0, ?_, ?_, by rw [xk 7 (by decide) (by decide)]; exact c7, by rw [xk 8 (by decide) (by decide)]; exact c8, fun t' k' h1 h4 hk' => ?_⟩
                · show ((X.sI (2 + 5 * (n - 1)) 5 (nI l)).sI (2 + 5 * (n - 1)) 6 (nI dd)).I (2 + 5 * (n - 1)) 5 = _
                  rw [sI_I, up2_k (by decide), sI_I, up2_s, if_neg (by decide)]
                · show ((X.sI (2 + 5 * (n - 1)) 5 (nI l)).sI (2 + 5 * (n - 1)) 6 (nI dd)).I (2 + 5 * (n - 1)) 6 = _
                  rw [sI_I, up2_s]
                · rw [(hX'.2.2 (2 + 5 * (n - 1) + t') (by simp only [List.mem_cons, List.not_mem_nil, or_false]; omega)).1]; exact ct t' k' h1 h4 hk'
              · rw [stF_o e, stF_o e, stF_o e]
                exact (hS.2.1 s' hs').ch hX' (by intro t ht; simp only [List.mem_cons, List.not_mem_nil, or_false]; omega)
            · obtain ⟨c0, c1, c2, c3, c4, ct⟩ := hS.2.2 s' hs'
              have yk : ∀ p, p ≠ 57 → p ≠ 58 → p ≠ 59 → Y'.I p = Y.I p := fun p h1 h2 h3 => (hY'.2.2 p (by simp; omega)).1
              by_cases e : s' = n - 1
              · subst e
                rw [stF_s, stF_s, stF_s]
                refine ⟨?_, ?_, ?_, ?_, ?_, fun t' k' h1 h4 hk' => ?_⟩
                · rw [y57, if_pos en]; rfl
                · rw [y58, if_pos en]
                · rw [y59, if_pos en]
                · rw [yk 60 (by decide) (by decide) (by decide)]; exact c3
                · rw [yk 61 (by decide) (by decide) (by decide)]; exact c4
                · rw [yk (61 + t') (by omega) (by omega) (by omega)]; exact ct t' k' h1 h4 hk'
              · rw [stF_o e, stF_o e, stF_o e]
                have hne : s' + 1 ≠ n := by omega
                refine ⟨?_, ?_, ?_, ?_, ?_, fun t' k' h1 h4 hk' => ?_⟩
                · rw [y57, if_neg hne]; exact c0
                · rw [y58, if_neg hne]; exact c1
                · rw [y59, if_neg hne]; exact c2
                · rw [yk 60 (by decide) (by decide) (by decide)]; exact c3
                · rw [yk 61 (by decide) (by decide) (by decide)]; exact c4
                · rw [yk (61 + t') (by omega) (by omega) (by omega)]; exact ct t' k' h1 h4 hk'
            · have hne : s' ≠ n - 1 := by
                intro e
                subst e
                omega
              rw [stF_o hne, stF_o hne]
              exact ⟨h, rfl⟩
          refine ⟨X', Y', 1, preC _ ?_, preM _ ?_, hin.rel, CK.of hX' (by intro p hp; simp only [List.mem_cons, List.not_mem_nil, or_false] at hp; omega), MK.of hY' (by intro p hp; simp only [List.mem_cons, List.not_mem_nil, or_false] at hp; omega)⟩
          · rw [if_pos (show (if al (n - 1) = 1 then (1 : Int32) else 0) = 0 by rw [if_neg ha]), bs (Sl_p5 hp), bs (Sl_p6 hp), bs bz_1]
          · rw [if_pos (by rw [ha0]; rfl), bs mo_r1, Option.bind_some, bs bz_1, mo_s57, e7, Option.bind_some, Option.bind_some, bs mo_r2, Option.bind_some, mo_s58, e7, Option.bind_some, Option.bind_some, bs mo_r3, Option.bind_some, mo_s59, e7, Option.bind_some, Option.bind_some, bs bz_1]
      · have wo : fMo_within z (0 : Int32) (5 : Int32) (wX b Y) = some (0, wX b Y) := w_out _ h
        have po : fPl_isWithin z (5 : Int32) (wX b X) = some (0, wX b X) := p_out _ h
        refine ⟨X, Y, 0, ?_, ?_, hI.rel, CK.rf, MK.rf⟩
        · unfold fPl_attach
          rw [bs (s_in _ n1 n6)]
          dsimp only
          rw [if_neg (by decide), bs (l_in _ (by omega))]
          dsimp only
          rw [if_neg (by decide), bs po]
          dsimp only
          rw [if_pos rfl, bs bz_0]
        · unfold fMo_attach
          rw [bs w1]
          dsimp only
          rw [if_neg (by decide), bs w2]
          dsimp only
          rw [if_neg (by decide), bs wo]
          dsimp only
          rw [if_pos rfl, bs bz_0]
    · have wo : fMo_within y (0 : Int32) (1 : Int32) (wX b Y) = some (0, wX b Y) := w_out _ h
      refine ⟨X, Y, 0, ?_, ?_, hI.rel, CK.rf, MK.rf⟩
      · unfold fPl_attach
        rw [bs (s_in _ n1 n6)]
        dsimp only
        rw [if_neg (by decide), bs (l_out _ h)]
        dsimp only
        rw [if_pos rfl, bs bz_0]
      · unfold fMo_attach
        rw [bs w1]
        dsimp only
        rw [if_neg (by decide), bs wo]
        dsimp only
        rw [if_pos rfl, bs bz_0]
  · have wo : fMo_within x (1 : Int32) (6 : Int32) (wX b Y) = some (0, wX b Y) := w_out _ h
    refine ⟨X, Y, 0, ?_, ?_, hI.rel, CK.rf, MK.rf⟩
    · unfold fPl_attach
      rw [bs (s_out _ h)]
      dsimp only
      rw [if_pos rfl, bs bz_0]
    · unfold fMo_attach
      rw [bs wo]
      dsimp only
      rw [if_pos rfl, bs bz_0]
theorem power_step (hI : Inv b t nr np E al ln d off ls tb cur q X Y) (x : Int32) {y : Int32} (hy : y = 0 ∨ y = 1) : ∃ X' Y' r, fPl_power b x y (wX b X) = some (r, wX b X') ∧ fMo_power (b + 56) x y (wX b Y) = some (r, wX b Y') ∧ Rel b t X' Y' ∧ CK X X' ∧ MK Y Y' := by
  rcases tri x (lo := 1) (hi := 6) (by omega) (by omega) with ⟨n, n1, n6, rfl⟩ | h
  · have hs : n - 1 < 6 := by omega
    have en : n - 1 + 1 = n := by omega
    have em : nI n - (1 : Int32) = nI (n - 1) := pk_sub (b := 1) (by omega)
    have w1 : fMo_within (nI n) (1 : Int32) (6 : Int32) (wX b Y) = some (1, wX b Y) := w_in (lo := 1) (hi := 6) _ n1 n6 (by decide)
    have hp := isSl_of hs
    have hS := hI.2.1
    have e7 : ax (nI n) 7 = some n := ax_of (by omega) (by decide) rfl
    obtain ⟨o', ho1, ho2, ho3, ho4⟩ : ∃ o', o' < 2 ∧ y = nI (1 - o') ∧ (if y = 0 then some (1 : Int32) else some (0 : Int32)) = some (nI o') ∧ bz (nI o') = some (nI o') := by
      rcases hy with rfl | rfl
      · exact ⟨1, by omega, rfl, rfl, rfl⟩
      · exact ⟨0, by omega, rfl, rfl, rfl⟩
    have bzy : bz y = some y := by rcases hy with rfl | rfl <;> rfl
    have hX' : Ch [2 + 5 * (n - 1)] X (X.sI (2 + 5 * (n - 1)) 7 y) := Ch.rf.sI (by simp)
    have hY' : Ch [60] Y (Y.sI 60 n (nI o')) := Ch.rf.sI (by simp)
    have hin : Inv b t nr np E al ln d (stF off (n - 1) o') ls tb cur q (X.sI (2 + 5 * (n - 1)) 7 y) (Y.sI 60 n (nI o')) := by
      refine hI.slv (qs := [60]) (hX'.mono (by intro p hp; rw [slR_mem]; simp only [List.mem_cons, List.not_mem_nil, or_false] at hp; omega)) hY' (by intro p hp; simp only [List.mem_cons, List.not_mem_nil, or_false] at hp; omega) ⟨fun s' hs' => ?_, fun s' hs' => ?_, fun s' hs' => ?_⟩ (fun s' hs' h => ⟨h, rfl⟩)
      · by_cases e : s' = n - 1
        · subst e
          rw [stF_s]
          obtain ⟨v1, v2, v3, v4, v5⟩ := hS.1 _ hs
          exact ⟨v1, v2, v3, ho1, v5⟩
        · rw [stF_o e]; exact hS.1 s' hs'
      · by_cases e : s' = n - 1
        · subst e
          rw [stF_s]
          obtain ⟨c0, c5, c6, c7, c8, ct⟩ := hS.2.1 _ hs
          refine ⟨?_, ?_, ?_, ?_, ?_, fun t' k' h1 h4 hk' => ?_⟩
          · rw [sI_I, up2_k (by decide)]; exact c0
          · rw [sI_I, up2_k (by decide)]; exact c5
          · rw [sI_I, up2_k (by decide)]; exact c6
          · rw [sI_I, up2_s, ho2]
          · rw [sI_I, up2_k (by decide)]; exact c8
          · rw [(hX'.2.2 (2 + 5 * (n - 1) + t') (by simp only [List.mem_cons, List.not_mem_nil, or_false]; omega)).1]; exact ct t' k' h1 h4 hk'
        · rw [stF_o e]
          exact (hS.2.1 s' hs').ch hX' (by intro t ht; simp only [List.mem_cons, List.not_mem_nil, or_false]; omega)
      · obtain ⟨c0, c1, c2, c3, c4, ct⟩ := hS.2.2 s' hs'
        have yk : ∀ p, p ≠ 60 → (Y.sI 60 n (nI o')).I p = Y.I p := fun p h1 => (hY'.2.2 p (by simp; omega)).1
        refine ⟨?_, ?_, ?_, ?_, ?_, fun t' k' h1 h4 hk' => ?_⟩
        · rw [yk 57 (by decide)]; exact c0
        · rw [yk 58 (by decide)]; exact c1
        · rw [yk 59 (by decide)]; exact c2
        · rw [sI_I]
          by_cases e : s' = n - 1
          · subst e
            rw [stF_s, en, up2_s]
          · rw [stF_o e, up2_k (by omega)]; exact c3
        · rw [yk 61 (by decide)]; exact c4
        · rw [yk (61 + t') (by omega)]; exact ct t' k' h1 h4 hk'
    refine ⟨_, _, 1, ?_, ?_, hin.rel, CK.of hX' (by intro p hp; simp only [List.mem_cons, List.not_mem_nil, or_false] at hp; omega), MK.of hY' (by intro p hp; simp only [List.mem_cons, List.not_mem_nil, or_false] at hp; omega)⟩
    · unfold fPl_power
      rw [bs (s_in _ n1 n6)]
      dsimp only
      rw [if_neg (by decide), bs pl_r0, Option.bind_some, em, sa_r, bs (ax_of hs (by decide) rfl), if_pos hs, Option.bind_some, Option.bind_some, bs bzy, bs (Sl_p7 hp), bs bz_1]
    · unfold fMo_power
      rw [bs w1]
      dsimp only
      rw [if_neg (by decide), bs mo_r4, bs ho3, Option.bind_some, bs ho4, mo_s60, e7, Option.bind_some, Option.bind_some, bs bz_1]
  · have wo : fMo_within x (1 : Int32) (6 : Int32) (wX b Y) = some (0, wX b Y) := w_out _ h
    refine ⟨X, Y, 0, ?_, ?_, hI.rel, CK.rf, MK.rf⟩
    · unfold fPl_power
      rw [bs (s_out _ h)]
      dsimp only
      rw [if_pos rfl, bs bz_0]
    · unfold fMo_power
      rw [bs wo]
      dsimp only
      rw [if_pos rfl, bs bz_0]
theorem fault_step (hI : Inv b t nr np E al ln d off ls tb cur q X Y) (x : Int32) {y : Int32} (hy : y = 0 ∨ y = 1) (z : Int32) : ∃ X' Y' r, fPl_fault b x y z (wX b X) = some (r, wX b X') ∧ fMo_fault (b + 56) x y z (wX b Y) = some (r, wX b Y') ∧ Rel b t X' Y' ∧ CK X X' ∧ MK Y Y' := by
  rcases tri x (lo := 0) (hi := 1) (by omega) (by omega) with ⟨j, l0, l1, rfl⟩ | h
  · have hj : j < 2 := by omega
    have hlin := li_of hj
    have ej : ax (nI j) 2 = some j := ax_of hj (by decide) rfl
    have w1 : fMo_within (nI j) (0 : Int32) (1 : Int32) (wX b Y) = some (1, wX b Y) := w_in (lo := 0) (hi := 1) _ l0 l1 (by decide)
    rcases tri z (lo := 0) (hi := 400) (by omega) (by omega) with ⟨k, k0, k4, rfl⟩ | h
    · have w2 : fMo_within (nI k) (0 : Int32) (400 : Int32) (wX b Y) = some (1, wX b Y) := w_in (lo := 0) (hi := 400) _ k0 k4 (by decide)
      have p2 : fPl_isWithin (nI k) (400 : Int32) (wX b X) = some (1, wX b X) := p_in (hi := 400) _ k4 (by decide)
      obtain ⟨ql, gl⟩ := Li_o (b := b) (X := X) hlin
      obtain ⟨w, w', hw, hw', wx, wy, wx', wy'⟩ := hI.2.2.2.2.1 j hj
      have hwa1 : isWa (33 + 8 * j + 1) := by unfold isWa; omega
      have hwa2 : isWa (33 + 8 * j + 4) := by unfold isWa; omega
      have preC : ∀ o, isWa o → fLi_wayOf (b + (33 + 8 * j)) y (wX b X) = some (some (b + o), wX b X) → ∀ v S', fWa_plantFault (b + o) (wX b X) = some (v, S') → bz v = some v → fPl_fault b (nI j) y (nI k) (wX b X) = some (v, S') := by
        intro o hwo hw v S' hf hb
        obtain ⟨qw, gw⟩ := Wa_o (b := b) (X := X) hwo
        unfold fPl_fault
        rw [bs (l_in _ hj)]
        dsimp only
        rw [if_neg (by decide), bs p2]
        dsimp only
        rw [if_neg (by decide), bs pl_r1, Option.bind_some, la_r, bs (ax_of hj (by decide) rfl), if_pos hj, Option.bind_some, Option.bind_some, bs gl, bs hw]
        dsimp only
        rw [Option.bind_some, bs gw, bs hf]
        dsimp only
        rw [bs hb]
      have a88 : aI (wX b Y) (b + 88) 1 (nI j) = some (nI w) := by rw [mo_a88, bs ej, wy]
      have a89 : aI (wX b Y) (b + 89) 1 (nI j) = some (nI w') := by rw [mo_a89, bs ej, wy']
      rcases hy with rfl | rfl
      · have hway : fLi_wayOf (b + (33 + 8 * j)) (0 : Int32) (wX b X) = some (some (b + (33 + 8 * j + 1)), wX b X) := by
          unfold fLi_wayOf
          rw [if_pos rfl, bs (Li_r1 hlin)]
        have preM : ∀ R, (if nI w = 0 then fMo_fault_J47_1 (0 : Int32) (wX b Y) (b + 56) (nI j) else (bz (0 : Int32)).bind fun z21 => some ((0 : Int32), wX b Y)) = R → fMo_fault (b + 56) (nI j) 0 (nI k) (wX b Y) = R := by
          intro R hR
          unfold fMo_fault
          rw [bs w1]
          dsimp only
          rw [if_neg (by decide), bs w2]
          dsimp only
          rw [if_neg (by decide), if_pos rfl, bs mo_r35, Option.bind_some, bs a88]
          exact hR
        by_cases e : w = 0
        · subst e
          have hX' : Ch [33 + 8 * j + 1, 33 + 8 * j + 4] X (X.sI (33 + 8 * j + 1) 1 1) := Ch.rf.sI (by simp)
          have hY' : Ch [88, 89] Y (Y.sI 88 j 1) := Ch.rf.sI (by simp)
          have hin := hI.way hj hX' hY' ⟨1, w', by omega, hw', by rw [sI_I, up2_s]; rfl, by rw [sI_I, up2_s]; rfl, by rw [sI_I, up2_o (by omega)]; exact wx', by rw [sI_I, up2_o (by decide)]; exact wy'⟩ (fun m hm => by rw [sI_I, up2_k hm, up2_o (by decide)]; exact ⟨rfl, rfl⟩)
          refine ⟨_, _, 1, preC _ hwa1 hway 1 _ ?_ rfl, preM _ ?_, hin.rel, CK.of hX' (by intro p hp; simp only [List.mem_cons, List.not_mem_nil, or_false] at hp; omega), MK.of hY' (by intro p hp; simp only [List.mem_cons, List.not_mem_nil, or_false] at hp; omega)⟩
          · unfold fWa_plantFault
            rw [bs (Wa_i1 hwa1), wx, if_pos (show nI 0 = (0 : Int32) from rfl), bs bz_1, bs (Wa_p1 hwa1), bs bz_1]
          · unfold fMo_fault_J47_1
            rw [if_pos (show nI 0 = (0 : Int32) from rfl), if_pos rfl, bs mo_r35, Option.bind_some, bs bz_1, mo_s88, ej, Option.bind_some, Option.bind_some, bs bz_1]
        · have e1 : w = 1 := by omega
          subst e1
          refine ⟨X, Y, 0, preC _ hwa1 hway 0 _ ?_ rfl, preM _ ?_, hI.rel, CK.rf, MK.rf⟩
          · unfold fWa_plantFault
            rw [bs (Wa_i1 hwa1), wx, if_neg (by decide), bs bz_0]
          · rw [if_neg (by decide), bs bz_0]
      · have hway : fLi_wayOf (b + (33 + 8 * j)) (1 : Int32) (wX b X) = some (some (b + (33 + 8 * j + 4)), wX b X) := by
          unfold fLi_wayOf
          rw [if_neg (by decide), bs (Li_r2 hlin)]
        have preM : ∀ R, (if nI w' = 0 then fMo_fault_J47_1 (1 : Int32) (wX b Y) (b + 56) (nI j) else (bz (0 : Int32)).bind fun z21 => some ((0 : Int32), wX b Y)) = R → fMo_fault (b + 56) (nI j) 1 (nI k) (wX b Y) = R := by
          intro R hR
          unfold fMo_fault
          rw [bs w1]
          dsimp only
          rw [if_neg (by decide), bs w2]
          dsimp only
          rw [if_neg (by decide), if_neg (by decide), bs mo_r36, Option.bind_some, bs a89]
          exact hR
        by_cases e : w' = 0
        · subst e
          have hX' : Ch [33 + 8 * j + 1, 33 + 8 * j + 4] X (X.sI (33 + 8 * j + 4) 1 1) := Ch.rf.sI (by simp)
          have hY' : Ch [88, 89] Y (Y.sI 89 j 1) := Ch.rf.sI (by simp)
          have hin := hI.way hj hX' hY' ⟨w, 1, hw, by omega, by rw [sI_I, up2_o (by omega)]; exact wx, by rw [sI_I, up2_o (by decide)]; exact wy, by rw [sI_I, up2_s]; rfl, by rw [sI_I, up2_s]; rfl⟩ (fun m hm => by rw [sI_I, up2_o (show (88 : Nat) ≠ 89 by decide), up2_k hm]; exact ⟨rfl, rfl⟩)
          refine ⟨_, _, 1, preC _ hwa2 hway 1 _ ?_ rfl, preM _ ?_, hin.rel, CK.of hX' (by intro p hp; simp only [List.mem_cons, List.not_mem_nil, or_false] at hp; omega), MK.of hY' (by intro p hp; simp only [List.mem_cons, List.not_mem_nil, or_false] at hp; omega)⟩
          · unfold fWa_plantFault
            rw [bs (Wa_i1 hwa2), wx', if_pos (show nI 0 = (0 : Int32) from rfl), bs bz_1, bs (Wa_p1 hwa2), bs bz_1]
          · unfold fMo_fault_J47_1
            rw [if_pos (show nI 0 = (0 : Int32) from rfl), if_neg (by decide), bs mo_r36, Option.bind_some, bs bz_1, mo_s89, ej, Option.bind_some, Option.bind_some, bs bz_1]
        · have e1 : w' = 1 := by omega
          subst e1
          refine ⟨X, Y, 0, preC _ hwa2 hway 0 _ ?_ rfl, preM _ ?_, hI.rel, CK.rf, MK.rf⟩
          · unfold fWa_plantFault
            rw [bs (Wa_i1 hwa2), wx', if_neg (by decide), bs bz_0]
          · rw [if_neg (by decide), bs bz_0]
    · have wo : fMo_within z (0 : Int32) (400 : Int32) (wX b Y) = some (0, wX b Y) := w_out _ h
      have po : fPl_isWithin z (400 : Int32) (wX b X) = some (0, wX b X) := p_out _ h
      refine ⟨X, Y, 0, ?_, ?_, hI.rel, CK.rf, MK.rf⟩
      · unfold fPl_fault
        rw [bs (l_in _ hj)]
        dsimp only
        rw [if_neg (by decide), bs po]
        dsimp only
        rw [if_pos rfl, bs bz_0]
      · unfold fMo_fault
        rw [bs w1]
        dsimp only
        rw [if_neg (by decide), bs wo]
        dsimp only
        rw [if_pos rfl, bs bz_0]
  · have wo : fMo_within x (0 : Int32) (1 : Int32) (wX b Y) = some (0, wX b Y) := w_out _ h
    refine ⟨X, Y, 0, ?_, ?_, hI.rel, CK.rf, MK.rf⟩
    · unfold fPl_fault
      rw [bs (l_out _ h)]
      dsimp only
      rw [if_pos rfl, bs bz_0]
    · unfold fMo_fault
      rw [bs wo]
      dsimp only
      rw [if_pos rfl, bs bz_0]
end CA
