/-! A line sends its job, and takes the answer if it comes at once: both sides. -/
section SE
variable {b t nr np j i : Nat} {E : Nat → Nat → Nat} {al ln d off ls : Nat → Nat} {tb : Nat → Nat → Nat → Nat} {cur : Nat → Option Nat} {q : Nat → List Nat} {X Y X2 Y2 : Xs}
def Rel2 (b t nr np : Nat) (E : Nat → Nat → Nat) (al ln d off : Nat → Nat) (X Y : Xs) : Prop := ∃ ls tb cur q, Inv b t nr np E al ln d off ls tb cur q X Y
theorem noTake (hI : Inv b t nr np E al ln d off ls tb cur q X Y) (hj : j < 2) (h : cur j = none ∨ X.I (33 + 8 * j) 8 ≠ nI t) : fPl_takeAnswer b (b + (33 + 8 * j)) (wX b X) = some (wX b X) := by
  have hlin := li_of hj
  have hL := hI.2.2.2.1 j hj
  have h7 : gI (wX b X) b [7] 7 = some (nI t) := by rw [pl_i7, hI.1.2.2.2.2.2.1]
  unfold fPl_takeAnswer
  rw [bs (Li_q5 hlin), hL.2.2.1.1]
  cases hc : cur j with
  | none => rfl
  | some i =>
    rcases h with h | h
    · rw [hc] at h; cases h
    · show oc (some (b + E 0 i)) _ _ = _
      rw [oc_some, bs (Li_i8 hlin), bs h7, if_neg h]
theorem ne_m1 {t : Nat} (h : t < 100000) : (-1 : Int32) ≠ nI t := by
  intro q
  have h3 : nI t < 0 := by rw [← q]; decide
  exact absurd h3 (nI_pos (by omega))
theorem send_step (hB : InvB b t nr np E al ln d off ls tb cur q j X Y) (hj : j < 2) (hc : cur j = some i) (h6 : X.I (33 + 8 * j) 6 = Y.I 83 j) : ∃ Xm X' Y', fPl_send b (b + (33 + 8 * j)) (wX b X) = some (wX b Xm) ∧ fPl_takeAnswer b (b + (33 + 8 * j)) (wX b Xm) = some (wX b X') ∧ fMo_send (b + 56) (nI j) (wX b Y) = some (wX b Y') ∧ Rel2 b t nr np E al ln d off X' Y' ∧ CK X X' ∧ MK Y Y' := by
  have hI1 := mark_inv hB hj hc h6
  obtain ⟨hli, hji, hi68, ho⟩ := hB.live hc
  have hLB := hB.2.2.2.2.1
  rw [hc] at hLB
  have hlin := li_of hj
  have ht := hB.1.2.2.1
  have ej : ax (nI j) 2 = some j := ax_of hj (by decide) rfl
  have h5 : gR (wX b X) (b + (33 + 8 * j)) [2] 5 = some (some (b + E 0 i)) := by rw [Li_q5 hlin, hLB.2.2.1.1]; rfl
  have h7 : gI (wX b X) b [7] 7 = some (nI t) := by rw [pl_i7, hB.1.2.2.2.2.2.1]
  have hwa1 : isWa (33 + 8 * j + 1) := by unfold isWa; omega
  have hwa2 : isWa (33 + 8 * j + 4) := by unfold isWa; omega
  have hfr1 : isFr (33 + 8 * j + 1 + 1) := by unfold isFr; omega
  have hfr2 : isFr (33 + 8 * j + 4 + 1) := by unfold isFr; omega
  obtain ⟨ql, gl⟩ := Li_o (b := b) (X := X) hlin
  have hjob := hji.1
  obtain ⟨hu, hf1, hf, ha, hcc, hv⟩ := hjob.2.2
  have hjob1 : JobN (mkX j t X) (E 0 i) (E 1 i) (E 2 i) (E 3 i) (E 4 i) (E 5 i) := hjob.ch mkX_ch (by simp only [List.mem_cons, List.not_mem_nil, or_false]; omega)
  obtain ⟨qj, gj1, gk⟩ := jo_o (b := b) hjob1.1
  have h82 : Y.I 82 j = nI i := hLB.2.2.1.2
  have h0 : Y.I 56 0 = nI t := hB.1.2.2.2.2.2.2.1
  have goM : ∀ S', fMo_carry (b + 56) (nI j) (nI (E 1 i)) (nI (E 2 i)) (nI (E 3 i)) (nI (E 4 i)) (lN (E 5 i)) (wX b (mkY j t Y)) = some S' → fMo_send (b + 56) (nI j) (wX b Y) = some S' := fun S' h => m_send hj hji hi68 h82 h0 h
  have y1_85 : (mkY j t Y).I 85 j = -1 := by unfold mkY; rw [sI_I, up2_s]
  have ckX1 : CK X (mkX j t X) := CK.of mkX_ch (by intro p hp; simp only [List.mem_cons, List.not_mem_nil, or_false] at hp; omega)
  have mkY1 : MK Y (mkY j t Y) := MK.of mkY_ch (by intro p hp; simp only [List.mem_cons, List.not_mem_nil, or_false] at hp; omega)
  -- the request's frame
  obtain ⟨Xa, w1, w2, w3⟩ := s_writeTo (b := b) hjob1 hfr1
  obtain ⟨Ya, m1, m2, m3⟩ := m_writeRequest (b := b) (X := mkY j t Y) (w := j) (by omega) hu hf1 hf ha hcc hv
  have hIa := hI1.wrQ hj w3 w2 m3 m2
  have ya_85 : Ya.I 85 j = -1 := by rw [(m3.1.2.2 85 (by simp)).1]; exact y1_85
  have ckXa : CK X Xa := ckX1.tr (CK.of w3 (by intro p hp; simp only [List.mem_cons, List.not_mem_nil, or_false] at hp; omega))
  have mkYa : MK Y Ya := mkY1.tr (MK.of m3.1 (by intro p hp; simp only [List.mem_cons, List.not_mem_nil, or_false] at hp; omega))
  -- the fault of the request
  obtain ⟨w, w', hw, hw', wx, wy, wx', wy'⟩ := hIa.2.2.2.2.1 j hj
  obtain ⟨qw, gw1⟩ := Wa_o (b := b) (X := Xa) hwa1
  have bzw : bz (nI w) = some (nI w) := by
    have : w = 0 ∨ w = 1 := by omega
    rcases this with rfl | rfl
    · rfl
    · rfl
  have sp1 : fWa_spendFault (b + (33 + 8 * j + 1)) (wX b Xa) = some (nI w, wX b (Xa.sI (33 + 8 * j + 1) 1 0)) := by
    unfold fWa_spendFault
    rw [bs (Wa_i1 hwa1), bs bz_0, bs (Wa_p1 hwa1), wx, bs bzw]
  have a88 : aI (wX b Ya) (b + 88) 1 (nI j) = some (nI w) := by rw [mo_a88, bs ej, wy]
  have hXb : Ch [33 + 8 * j + 1, 33 + 8 * j + 4] Xa (Xa.sI (33 + 8 * j + 1) 1 0) := Ch.rf.sI (by simp)
  have xb4 : (Xa.sI (33 + 8 * j + 1) 1 0).I (33 + 8 * j + 4) 1 = nI w' := by rw [sI_I, up2_o (by omega), wx']
  have xb1 : (Xa.sI (33 + 8 * j + 1) 1 0).I (33 + 8 * j + 1) 1 = nI 0 := by rw [sI_I, up2_s]; rfl
  have ckXb : CK X (Xa.sI (33 + 8 * j + 1) 1 0) := ckXa.tr (CK.of hXb (by intro p hp; simp only [List.mem_cons, List.not_mem_nil, or_false] at hp; omega))
  have nt : ∀ {ls2 : Nat → Nat} {tb2 : Nat → Nat → Nat → Nat} {X2 Y2 : Xs}, Inv b t nr np E al ln d off ls2 tb2 cur q X2 Y2 → Y2.I 85 j = -1 → fPl_takeAnswer b (b + (33 + 8 * j)) (wX b X2) = some (wX b X2) := by
    intro ls2 tb2 X2 Y2 h e
    refine noTake h hj (Or.inr ?_)
    have := h.2.2.2.1 j hj
    rw [hc] at this
    rw [(this.2.2.2.2.2.2 i rfl).2.2.1, e]
    exact ne_m1 ht
  by_cases c1 : w = 0
  · subst c1
    have hIb := hIa.way hj (Y2 := Ya) hXb Ch.rf ⟨0, w', by omega, hw', xb1, wy, xb4, wy'⟩ (fun _ _ => ⟨rfl, rfl⟩)
    obtain ⟨qp, gp3⟩ := pl_o (b := b) (X := Xa.sI (33 + 8 * j + 1) 1 0)
    have hjobb : JobN (Xa.sI (33 + 8 * j + 1) 1 0) (E 0 i) (E 1 i) (E 2 i) (E 3 i) (E 4 i) (E 5 i) := (hjob1.ch w3 (by simp only [List.mem_cons, List.not_mem_nil, or_false]; omega)).ch hXb (by simp only [List.mem_cons, List.not_mem_nil, or_false]; omega)
    have hLb := hIb.2.2.2.1 j hj
    have hV := hIb.2.1.1
    obtain ⟨Xc, r, d1, d2, d3, d4⟩ := c_deliver (b := b) hj hV hIb.2.1.2.1 hjobb hLb.1.2.1
    obtain ⟨Yc, rM, e1, e2, e3, e4, e5⟩ := m_deliver (b := b) hj hV hIb.2.1.2.2 hu hf1 hf ha hcc hv
    have hx0 : Xc.I 0 = (Xa.sI (33 + 8 * j + 1) 1 0).I 0 := (d3.2.2 0 (by rw [slR_mem]; omega)).1
    have hIc := hIb.sla d3 e3 e4 ⟨mpost hV, d2, e2⟩ hx0
    have yc_85 : Yc.I 85 j = -1 := by rw [(e3.2.2 85 (by simp)).1]; exact ya_85
    have ckXc : CK X Xc := ckXb.tr (CK.of d3 (fun p h => by have := slR_mem.mp h; omega))
    have mkYc : MK Y Yc := mkYa.tr (MK.of e3 (by intro p hp; simp only [List.mem_cons, List.not_mem_nil, or_false] at hp; omega))
    by_cases c2 : ansQ j (E 1 i) (E 2 i) (E 3 i) (E 4 i) (E 5 i) al ln off ls
    · -- the answer
      have hr : r = some (b + (2 + 5 * (E 1 i - 1))) := by
        rcases d4 with ⟨-, h⟩ | ⟨h, -⟩
        · exact h
        · exact absurd c2 h
      obtain ⟨hrM, hSd⟩ : rM = 1 ∧ SaidQ Yc (E 1 i) (E 2 i) (E 3 i) (E 4 i) (E 5 i) tb := by
        rcases e5 with ⟨-, h⟩ | ⟨h, -⟩
        · exact h
        · exact absurd c2 h
      subst hr
      subst hrM
      obtain ⟨u1, u6, u3, u4, u5⟩ := c2
      have hs6 : E 1 i - 1 < 6 := by omega
      have hsl := isSl_of hs6
      obtain ⟨qs, gs4⟩ := Sl_o (b := b) (X := Xc) hsl
      have hjobc : JobN Xc (E 0 i) (E 1 i) (E 2 i) (E 3 i) (E 4 i) (E 5 i) := hjobb.ch d3 (fun h => by have := slR_mem.mp h; omega)
      have hFc : FrL Xc (33 + 8 * j + 1 + 1) (reqL (E 1 i) (E 2 i) (E 3 i) (E 4 i) (E 5 i)) := by
        refine w2.of ?_ ?_
        · rw [(d3.2.2 _ (fun h => by have := slR_mem.mp h; omega)).1, (hXb.2.2 _ (by simp only [List.mem_cons, List.not_mem_nil, or_false]; omega)).1]
        · rw [(d3.2.2 _ (fun h => by have := slR_mem.mp h; omega)).1, (hXb.2.2 _ (by simp only [List.mem_cons, List.not_mem_nil, or_false]; omega)).1]
      obtain ⟨Xd, w5, w6, w7⟩ := c_writeAnswer (b := b) hs6 (hIc.2.1.1 _ hs6) (hIc.2.1.2.1 _ hs6) hjobc hfr1 hfr2 (by omega) hFc
      obtain ⟨sv, hsv1, hsv2, hsv3⟩ : ∃ sv, sv < 2 ^ 64 ∧ Yc.J 56 40 = lN sv ∧ (refN (E 2 i) (E 3 i) (E 4 i) (E 5 i) = 0 → sv = svN (E 2 i) (E 3 i) (E 4 i) (E 5 i) (tb (E 1 i - 1)) ∧ svOK (E 2 i) (E 4 i) (E 5 i) sv) := by
        by_cases e : refN (E 2 i) (E 3 i) (E 4 i) (E 5 i) = 0
        · have := svN_ok (hV _ hs6) e
          exact ⟨_, this.1, hSd.2.1 e, fun _ => ⟨rfl, this⟩⟩
        · exact ⟨0, by decide, hSd.2.2 e, fun h => absurd h e⟩
      obtain ⟨Yd, m5, m6, m7⟩ := m_writeAnswer (b := b) (X := Yc) hj hu hf1 hf ha hcc hv hsv1 rfl hSd.1 hsv2
      have hFd : FrL Xd (33 + 8 * j + 4 + 1) (ansL (E 1 i) (E 2 i) (E 3 i) (E 4 i) (E 5 i) (refN (E 2 i) (E 3 i) (E 4 i) (E 5 i)) sv) := by
        by_cases e : refN (E 2 i) (E 3 i) (E 4 i) (E 5 i) = 0
        · have e2 : svN (E 2 i) (E 3 i) (E 4 i) (E 5 i) (tbP j (E 1 i) (E 2 i) (E 3 i) (E 4 i) (E 5 i) al ln off ls tb (E 1 i - 1)) = sv := by
            rw [(hsv3 e).1]
            by_cases hd : doesQ j (E 1 i) (E 2 i) (E 3 i) (E 4 i) (E 5 i) (E 1 i - 1) al ln off ls
            · rw [tbP_pos hd, svN_act]
            · rw [tbP_neg hd]
          rw [e2] at w6
          exact w6
        · rw [ansL_bad e] at w6 ⊢
          exact w6
      have hId := hIc.wrA hj yc_85 w7 hFd m7 m6
      have yd_85 : Yd.I 85 j = -1 := by rw [(m7.1.2.2 85 (by simp)).1]; exact yc_85
      have ckXd : CK X Xd := ckXc.tr (CK.of w7 (by intro p hp; simp only [List.mem_cons, List.not_mem_nil, or_false] at hp; omega))
      have mkYd : MK Y Yd := mkYc.tr (MK.of m7.1 (by intro p hp; simp only [List.mem_cons, List.not_mem_nil, or_false] at hp; omega))
      obtain ⟨z, z', hz, hz', zx, zy, zx', zy'⟩ := hId.2.2.2.2.1 j hj
      obtain ⟨qw2, gw2⟩ := Wa_o (b := b) (X := Xd) hwa2
      have bzz : bz (nI z') = some (nI z') := by
        have : z' = 0 ∨ z' = 1 := by omega
        rcases this with rfl | rfl
        · rfl
        · rfl
      have sp2 : fWa_spendFault (b + (33 + 8 * j + 4)) (wX b Xd) = some (nI z', wX b (Xd.sI (33 + 8 * j + 4) 1 0)) := by
        unfold fWa_spendFault
        rw [bs (Wa_i1 hwa2), bs bz_0, bs (Wa_p1 hwa2), zx', bs bzz]
      have a89 : aI (wX b Yd) (b + 89) 1 (nI j) = some (nI z') := by rw [mo_a89, bs ej, zy']
      have hXe : Ch [33 + 8 * j + 1, 33 + 8 * j + 4] Xd (Xd.sI (33 + 8 * j + 4) 1 0) := Ch.rf.sI (by simp)
      have xe1 : (Xd.sI (33 + 8 * j + 4) 1 0).I (33 + 8 * j + 1) 1 = nI z := by rw [sI_I, up2_o (by omega), zx]
      have xe4 : (Xd.sI (33 + 8 * j + 4) 1 0).I (33 + 8 * j + 4) 1 = nI 0 := by rw [sI_I, up2_s]; rfl
      have ckXe : CK X (Xd.sI (33 + 8 * j + 4) 1 0) := ckXd.tr (CK.of hXe (by intro p hp; simp only [List.mem_cons, List.not_mem_nil, or_false] at hp; omega))
      by_cases c3 : z' = 0
      · subst c3
        have hIe := hId.way hj (Y2 := Yd) hXe Ch.rf ⟨z, 0, hz, by omega, xe1, zy, xe4, zy'⟩ (fun _ _ => ⟨rfl, rfl⟩)
        have hSV := hIe.2.1.1 _ hs6
        have hd6 : d (E 1 i - 1) < 6 := hSV.2.2.1
        have gd : gI (wX b (Xd.sI (33 + 8 * j + 4) 1 0)) (b + (2 + 5 * (E 1 i - 1))) [5] 6 = some (nI (d (E 1 i - 1))) := by rw [Sl_i6 hsl, (hIe.2.1.2.1 _ hs6).2.2.1]
        have h7e : gI (wX b (Xd.sI (33 + 8 * j + 4) 1 0)) b [7] 7 = some (nI t) := by rw [pl_i7, hIe.1.2.2.2.2.2.1]
        have a59 : aI (wX b Yd) (b + 59) 0 (nI (E 1 i)) = some (nI (d (E 1 i - 1))) := by
          have e : E 1 i - 1 + 1 = E 1 i := by omega
          have := (hIe.2.1.2.2 _ hs6).2.2.1
          rw [e] at this
          rw [mo_a59, bs (ax_of (show E 1 i < 7 by omega) (by decide) rfl), this]
        have h0d : Yd.I 56 0 = nI t := hIe.1.2.2.2.2.2.2.1
        have s39 : Yd.I 56 39 = nI (refN (E 2 i) (E 3 i) (E 4 i) (E 5 i)) := by rw [(m7.1.2.2 56 (by simp)).1]; exact hSd.1
        have s40 : Yd.J 56 40 = lN sv := by rw [(m7.1.2.2 56 (by simp)).2.2]; exact hsv2
        obtain ⟨e, he⟩ : ∃ e : Int32, e = if 3 ≤ d (E 1 i - 1) then -1 else nI (t + d (E 1 i - 1)) := ⟨_, rfl⟩
        have cif : (if (3 : Int32) ≤ nI (d (E 1 i - 1)) then some (-1 : Int32) else (gI (wX b Yd) (b + 56) [8] 0).bind fun v45 => (gR (wX b Yd) (b + 56) [8] 3).bind fun r46 => (r46).bind fun a47 => (aI (wX b Yd) a47 0 (nI (E 1 i))).bind fun v48 => some (v45 + v48)) = some e := by
          have c : ((3 : Int32) ≤ nI (d (E 1 i - 1))) = (3 ≤ d (E 1 i - 1)) := ge_3 (by omega)
          by_cases k : 3 ≤ d (E 1 i - 1)
          · rw [if_pos (by rw [c]; exact k), he, if_pos k]
          · rw [if_neg (by rw [c]; exact k), he, if_neg k, bs mo_i0, bs mo_r3, Option.bind_some, bs a59, h0d, nI_add]
        let Yf := ((Yd.sI 85 j e).sI 86 j (nI (refN (E 2 i) (E 3 i) (E 4 i) (E 5 i)))).sJ 87 j (lN sv)
        have hYf : Ch [85, 86, 87] Yd Yf := ((Ch.rf.sI (by simp)).sI (by simp)).sJ (by simp)
        have yf85 : Yf.I 85 j = e := by
          show ((Yd.sI 85 j e).sI 86 j (nI (refN (E 2 i) (E 3 i) (E 4 i) (E 5 i)))).I 85 j = e
          rw [sI_I, up2_o (by decide), sI_I, up2_s]
        have yf86 : Yf.I 86 j = nI (refN (E 2 i) (E 3 i) (E 4 i) (E 5 i)) := by
          show ((Yd.sI 85 j e).sI 86 j (nI (refN (E 2 i) (E 3 i) (E 4 i) (E 5 i)))).I 86 j = _
          rw [sI_I, up2_s]
        have yf87 : Yf.J 87 j = lN sv := by
          show (((Yd.sI 85 j e).sI 86 j (nI (refN (E 2 i) (E 3 i) (E 4 i) (E 5 i)))).sJ 87 j (lN sv)).J 87 j = _
          rw [sJ_J, up2_s]
        have yfo : ∀ k, k ≠ j → Yf.I 85 k = Yd.I 85 k ∧ Yf.I 86 k = Yd.I 86 k ∧ Yf.J 87 k = Yd.J 87 k := by
          intro k hk
          show ((Yd.sI 85 j e).sI 86 j (nI (refN (E 2 i) (E 3 i) (E 4 i) (E 5 i)))).I 85 k = _ ∧ ((Yd.sI 85 j e).sI 86 j (nI (refN (E 2 i) (E 3 i) (E 4 i) (E 5 i)))).I 86 k = _ ∧ (((Yd.sI 85 j e).sI 86 j (nI (refN (E 2 i) (E 3 i) (E 4 i) (E 5 i)))).sJ 87 j (lN sv)).J 87 k = _
          rw [sI_I, up2_o (by decide), sI_I, up2_k hk, up2_k hk, up2_o (by decide), sJ_J, up2_k hk]
          exact ⟨rfl, rfl, rfl⟩
        have mkYf : MK Y Yf := mkYd.tr (MK.of hYf (by intro p hp; simp only [List.mem_cons, List.not_mem_nil, or_false] at hp; omega))
        have hMf : ∀ S', (if e = nI t then (gO (wX b Yf) (b + 56) [8]).bind fun q65 => (fMo_comes (b + 56) (nI j) (wX b Yf)).bind fun S64 => some S64 else some (wX b Yf)) = some S' → fMo_send (b + 56) (nI j) (wX b Y) = some S' := by
          intro S' hS'
          refine goM S' ?_
          have i39 : gI (wX b (Yd.sI 85 j e)) (b + 56) [8] 39 = some (nI (refN (E 2 i) (E 3 i) (E 4 i) (E 5 i))) := by rw [mo_i39, sI_I, up2_o (by decide), s39]
          have i40 : gL (wX b ((Yd.sI 85 j e).sI 86 j (nI (refN (E 2 i) (E 3 i) (E 4 i) (E 5 i))))) (b + 56) [8] 40 = some (lN sv) := by
            rw [mo_i40]
            show some (Yd.J 56 40) = _
            rw [s40]
          have a85 : aI (wX b Yf) (b + 85) 0 (nI j) = some e := by rw [mo_a85, bs ej, yf85]
          have i0 : gI (wX b Yf) (b + 56) [8] 0 = some (nI t) := by rw [mo_i0, (hYf.2.2 56 (by simp)).1, h0d]
          unfold fMo_carry
          rw [bs mo_o, bs m1, bs mo_r35, Option.bind_some, bs a88]
          rw [if_pos (show nI 0 = (0 : Int32) from rfl), bs e1]
          dsimp only
          rw [if_neg (by decide), bs mo_o, bs m5, bs mo_r36, Option.bind_some, bs a89]
          rw [if_pos (show nI 0 = (0 : Int32) from rfl), bs mo_r32, bs mo_r3, Option.bind_some, bs a59, bs cif, Option.bind_some, mo_s85, ej, Option.bind_some, Option.bind_some, bs mo_r33, bs i39, Option.bind_some, mo_s86, ej, Option.bind_some, Option.bind_some, bs mo_r34, bs i40, Option.bind_some, mo_s87, ej, Option.bind_some, Option.bind_some, bs mo_r32, Option.bind_some]
          have a85 : aI (wX b (((Yd.sI 85 j e).sI 86 j (nI (refN (E 2 i) (E 3 i) (E 4 i) (E 5 i)))).sJ 87 j (lN sv))) (b + 85) 0 (nI j) = some e := a85
          have i0 : gI (wX b (((Yd.sI 85 j e).sI 86 j (nI (refN (E 2 i) (E 3 i) (E 4 i) (E 5 i)))).sJ 87 j (lN sv))) (b + 56) [8] 0 = some (nI t) := i0
          rw [bs a85, bs i0]
          exact hS'
        by_cases k3 : 3 ≤ d (E 1 i - 1)
        · rw [if_pos k3] at he
          have x8 : (Xd.sI (33 + 8 * j + 4) 1 0).I (33 + 8 * j) 8 = -1 := by
            have := hIe.2.2.2.1 j hj
            rw [hc] at this
            rw [(this.2.2.2.2.2.2 i rfl).2.2.1, yd_85]
          have hIf := hIe.ans hj hc (X2 := Xd.sI (33 + 8 * j + 4) 1 0) (Y2 := Yf) Ch.rf rfl (fun _ _ => rfl) hYf yfo (by rw [x8, yf85, he]) (Or.inl (by rw [yf85, he]))
          refine ⟨Xd.sI (33 + 8 * j + 4) 1 0, Xd.sI (33 + 8 * j + 4) 1 0, Yf, ?_, nt hIf (by rw [yf85, he]), hMf _ ?_, ⟨_, _, _, _, hIf⟩, ckXe, mkYf⟩
          · unfold fPl_send
            rw [bs h5, oc_some, bs h7, bs gl, bs (c_mark hj), bs (Li_r1 hlin), Option.bind_some, bs (Wa_r0 hwa1), Option.bind_some, bs gj1, bs w1, bs (Li_r1 hlin), Option.bind_some, bs gw1, bs sp1]
            dsimp only
            rw [if_pos (show nI 0 = (0 : Int32) from rfl), bs gp3, bs d1]
            dsimp only
            rw [oc_some, bs (Li_r1 hlin), Option.bind_some, bs (Wa_r0 hwa1), bs (Li_r2 hlin), Option.bind_some, bs (Wa_r0 hwa2), Option.bind_some, Option.bind_some, bs gs4, bs w5, bs (Li_r2 hlin), Option.bind_some, bs gw2, bs sp2]
            dsimp only
            rw [if_pos (show nI 0 = (0 : Int32) from rfl), bs gd, if_pos (by rw [ge_3 (by omega)]; exact k3)]
          · rw [if_neg (by rw [he]; exact ne_m1 ht)]
        · rw [if_neg k3] at he
          let Xf := (Xd.sI (33 + 8 * j + 4) 1 0).sI (33 + 8 * j) 8 (nI (t + d (E 1 i - 1)))
          have hXf : Ch [33 + 8 * j] (Xd.sI (33 + 8 * j + 4) 1 0) Xf := Ch.rf.sI (by simp)
          have xf8 : Xf.I (33 + 8 * j) 8 = nI (t + d (E 1 i - 1)) := by
            show ((Xd.sI (33 + 8 * j + 4) 1 0).sI (33 + 8 * j) 8 (nI (t + d (E 1 i - 1)))).I (33 + 8 * j) 8 = _
            rw [sI_I, up2_s]
          have hPf : PND E j i Xf Yf := by
            refine ⟨by omega, refN (E 2 i) (E 3 i) (E 4 i) (E 5 i), sv, rfl, fun h => ⟨(hsv3 h).2, yf87⟩, ?_, yf86⟩
            refine hFd.of ?_ ?_
            · rw [(hXf.2.2 _ (by simp only [List.mem_cons, List.not_mem_nil, or_false]; omega)).1, (hXe.2.2 _ (by simp only [List.mem_cons, List.not_mem_nil, or_false]; omega)).1]
            · rw [(hXf.2.2 _ (by simp only [List.mem_cons, List.not_mem_nil, or_false]; omega)).1, (hXe.2.2 _ (by simp only [List.mem_cons, List.not_mem_nil, or_false]; omega)).1]
          have hIf := hIe.ans hj hc (X2 := Xf) (Y2 := Yf) hXf rfl (fun k hk => by
            show ((Xd.sI (33 + 8 * j + 4) 1 0).sI (33 + 8 * j) 8 (nI (t + d (E 1 i - 1)))).I (33 + 8 * j) k = _
            rw [sI_I, up2_k hk]) hYf yfo (by rw [xf8, yf85, he]) (Or.inr hPf)
          have ckXf : CK X Xf := ckXe.tr (CK.of hXf (by intro p hp; simp only [List.mem_cons, List.not_mem_nil, or_false] at hp; omega))
          have hcls : fPl_send b (b + (33 + 8 * j)) (wX b X) = some (wX b Xf) := by
            unfold fPl_send
            rw [bs h5, oc_some, bs h7, bs gl, bs (c_mark hj), bs (Li_r1 hlin), Option.bind_some, bs (Wa_r0 hwa1), Option.bind_some, bs gj1, bs w1, bs (Li_r1 hlin), Option.bind_some, bs gw1, bs sp1]
            dsimp only
            rw [if_pos (show nI 0 = (0 : Int32) from rfl), bs gp3, bs d1]
            dsimp only
            rw [oc_some, bs (Li_r1 hlin), Option.bind_some, bs (Wa_r0 hwa1), bs (Li_r2 hlin), Option.bind_some, bs (Wa_r0 hwa2), Option.bind_some, Option.bind_some, bs gs4, bs w5, bs (Li_r2 hlin), Option.bind_some, bs gw2, bs sp2]
            dsimp only
            rw [if_pos (show nI 0 = (0 : Int32) from rfl), bs gd, if_neg (by rw [ge_3 (by omega)]; exact k3), bs h7e, bs gd, nI_add, bs (Li_p8 hlin)]
          by_cases k0 : d (E 1 i - 1) = 0
          · have ht8 : Xf.I (33 + 8 * j) 8 = nI t := by rw [xf8, k0]; rfl
            obtain ⟨X9, Y9, t1, t2, t3, t4, t5⟩ := take_step hIf hj hc hPf ht8
            refine ⟨Xf, X9, Y9, hcls, t1, hMf _ ?_, ⟨_, _, _, _, t3⟩, ckXf.tr t4, mkYf.tr t5⟩
            rw [if_pos (by rw [he, k0]; rfl), bs mo_o, bs t2]
          · have hne : nI (t + d (E 1 i - 1)) ≠ nI t := by
              intro h
              have := (nI_eq (by omega) (by omega)).mp h
              omega
            refine ⟨Xf, Xf, Yf, hcls, noTake hIf hj (Or.inr (by rw [xf8]; exact hne)), hMf _ ?_, ⟨_, _, _, _, hIf⟩, ckXf, mkYf⟩
            rw [if_neg (by rw [he]; exact hne)]
      · have hz1 : z' = 1 := by omega
        subst hz1
        let Ye := Yd.sI 89 j 0
        have hYe : Ch [88, 89] Yd Ye := Ch.rf.sI (by simp)
        have ye89 : Ye.I 89 j = nI 0 := by
          show (Yd.sI 89 j 0).I 89 j = _
          rw [sI_I, up2_s]; rfl
        have ye88 : Ye.I 88 = Yd.I 88 := by
          show (Yd.sI 89 j 0).I 88 = _
          rw [sI_I]; exact up2_row (by decide)
        have hIe := hId.way hj (Y2 := Ye) hXe hYe ⟨z, 0, hz, by omega, xe1, by rw [ye88]; exact zy, xe4, ye89⟩ (fun k hk => ⟨by rw [ye88], by
          show (Yd.sI 89 j 0).I 89 k = _
          rw [sI_I, up2_k hk]⟩)
        have ye85 : Ye.I 85 j = -1 := by rw [(hYe.2.2 85 (by simp)).1]; exact yd_85
        refine ⟨_, _, Ye, ?_, nt hIe ye85, goM _ ?_, ⟨_, _, _, _, hIe⟩, ckXe, mkYd.tr (MK.of hYe (by intro p hp; simp only [List.mem_cons, List.not_mem_nil, or_false] at hp; omega))⟩
        · unfold fPl_send
          rw [bs h5, oc_some, bs h7, bs gl, bs (c_mark hj), bs (Li_r1 hlin), Option.bind_some, bs (Wa_r0 hwa1), Option.bind_some, bs gj1, bs w1, bs (Li_r1 hlin), Option.bind_some, bs gw1, bs sp1]
          dsimp only
          rw [if_pos (show nI 0 = (0 : Int32) from rfl), bs gp3, bs d1]
          dsimp only
          rw [oc_some, bs (Li_r1 hlin), Option.bind_some, bs (Wa_r0 hwa1), bs (Li_r2 hlin), Option.bind_some, bs (Wa_r0 hwa2), Option.bind_some, Option.bind_some, bs gs4, bs w5, bs (Li_r2 hlin), Option.bind_some, bs gw2, bs sp2]
          dsimp only
          rw [if_neg (by decide)]
        · unfold fMo_carry
          rw [bs mo_o, bs m1, bs mo_r35, Option.bind_some, bs a88]
          rw [if_pos (show nI 0 = (0 : Int32) from rfl), bs e1]
          dsimp only
          rw [if_neg (by decide), bs mo_o, bs m5, bs mo_r36, Option.bind_some, bs a89]
          rw [if_neg (by decide), bs mo_r36, Option.bind_some, bs bz_0, mo_s89, ej, Option.bind_some, Option.bind_some]
    · have hr : r = none := by
        rcases d4 with ⟨h, -⟩ | ⟨-, h⟩
        · exact absurd h c2
        · exact h
      have hrM : rM = 0 := by
        rcases e5 with ⟨h, -⟩ | ⟨-, h⟩
        · exact absurd h c2
        · exact h
      subst hr
      subst hrM
      refine ⟨_, _, Yc, ?_, nt hIc yc_85, goM _ ?_, ⟨_, _, _, _, hIc⟩, ckXc, mkYc⟩
      · unfold fPl_send
        rw [bs h5, oc_some, bs h7, bs gl, bs (c_mark hj), bs (Li_r1 hlin), Option.bind_some, bs (Wa_r0 hwa1), Option.bind_some, bs gj1, bs w1, bs (Li_r1 hlin), Option.bind_some, bs gw1, bs sp1]
        dsimp only
        rw [if_pos (show nI 0 = (0 : Int32) from rfl), bs gp3, bs d1]
        dsimp only
        rw [oc_none]
      · unfold fMo_carry
        rw [bs mo_o, bs m1, bs mo_r35, Option.bind_some, bs a88]
        rw [if_pos (show nI 0 = (0 : Int32) from rfl), bs e1]
        dsimp only
        rw [if_pos rfl]
  · have hw1 : w = 1 := by omega
    subst hw1
    let Yb := Ya.sI 88 j 0
    have hYb : Ch [88, 89] Ya Yb := Ch.rf.sI (by simp)
    have yb88 : Yb.I 88 j = nI 0 := by
      show (Ya.sI 88 j 0).I 88 j = _
      rw [sI_I, up2_s]; rfl
    have yb89 : Yb.I 89 = Ya.I 89 := by
      show (Ya.sI 88 j 0).I 89 = _
      rw [sI_I]; exact up2_row (by decide)
    have hIb := hIa.way hj (Y2 := Yb) hXb hYb ⟨0, w', by omega, hw', xb1, yb88, xb4, by rw [yb89]; exact wy'⟩ (fun k hk => ⟨by
      show (Ya.sI 88 j 0).I 88 k = _
      rw [sI_I, up2_k hk], by rw [yb89]⟩)
    have yb85 : Yb.I 85 j = -1 := by rw [(hYb.2.2 85 (by simp)).1]; exact ya_85
    refine ⟨_, _, Yb, ?_, nt hIb yb85, goM _ ?_, ⟨_, _, _, _, hIb⟩, ckXb, mkYa.tr (MK.of hYb (by intro p hp; simp only [List.mem_cons, List.not_mem_nil, or_false] at hp; omega))⟩
    · unfold fPl_send
      rw [bs h5, oc_some, bs h7, bs gl, bs (c_mark hj), bs (Li_r1 hlin), Option.bind_some, bs (Wa_r0 hwa1), Option.bind_some, bs gj1, bs w1, bs (Li_r1 hlin), Option.bind_some, bs gw1, bs sp1]
      dsimp only
      rw [if_neg (by decide)]
    · unfold fMo_carry
      rw [bs mo_o, bs m1, bs mo_r35, Option.bind_some, bs a88]
      rw [if_neg (by decide), bs mo_r35, Option.bind_some, bs bz_0, mo_s88, ej, Option.bind_some, Option.bind_some]
end SE
