/-! Small changes of both sides that keep the relation. -/
section MI
variable {b t nr np j i : Nat} {E : Nat → Nat → Nat} {al ln d off ls : Nat → Nat} {tb : Nat → Nat → Nat → Nat} {cur : Nat → Option Nat} {q : Nat → List Nat} {X Y X2 Y2 : Xs}
def LNB (b nr np : Nat) (E : Nat → Nat → Nat) (al ln : Nat → Nat) (j : Nat) (c : Option Nat) (q : List Nat) (X Y : Xs) : Prop :=
  (q.length ≤ 4 ∧ X.I (33 + 8 * j) 0 = nI j ∧ X.I (33 + 8 * j) 4 = nI q.length ∧ Y.I 81 j = nI q.length) ∧
  (∀ k, k < q.length → X.R (33 + 8 * j + 7) k = some (b + E 0 (q.getD k 0)) ∧ Y.I 80 (4 * j + k) = nI (q.getD k 0)) ∧
  (X.R (33 + 8 * j) 5 = c.map (fun i => b + E 0 i) ∧ Y.I 82 j = busyI c) ∧
  (c.toList ++ q).Nodup ∧ (∀ i, i ∈ c.toList ++ q → onL nr np E al ln j Y i)
theorem LNS.bas {c : Option Nat} {q : List Nat} (h : LNS b nr np E al ln j c q X Y) : LNB b nr np E al ln j c q X Y := ⟨h.1, h.2.1, h.2.2.1, h.2.2.2.1, h.2.2.2.2.1⟩
def InvB (b t nr np : Nat) (E : Nat → Nat → Nat) (al ln d off ls : Nat → Nat) (tb : Nat → Nat → Nat → Nat) (cur : Nat → Option Nat) (q : Nat → List Nat) (j : Nat) (X Y : Xs) : Prop :=
  SC t nr np X Y ∧ SLA al ln d off ls tb X Y ∧ JBS b nr np E al X Y ∧ (∀ j', j' < 2 → j' ≠ j → LNS b nr np E al ln j' (cur j') (q j') X Y) ∧ LNB b nr np E al ln j (cur j) (q j) X Y ∧ (∀ j, j < 2 → WAY j X Y) ∧ (∀ j, j < 2 → FRA j X Y) ∧ RH X Y
theorem Inv.bas (hI : Inv b t nr np E al ln d off ls tb cur q X Y) (hj : j < 2) : InvB b t nr np E al ln d off ls tb cur q j X Y := ⟨hI.1, hI.2.1, hI.2.2.1, fun j' h _ => hI.2.2.2.1 j' h, (hI.2.2.2.1 j hj).bas, hI.2.2.2.2⟩
theorem InvB.live (hI : InvB b t nr np E al ln d off ls tb cur q j X Y) (hc : cur j = some i) : liveJ nr np i ∧ JQ E i X Y ∧ i < 68 ∧ 92 ≤ E 0 i := by
  have h := hI.2.2.2.2.1
  rw [hc] at h
  have hl := (h.2.2.2.2 i (by simp)).1
  have hq := hI.2.2.1.1 i hl
  refine ⟨hl, hq, ?_, hq.1.1.1⟩
  have h1 := hI.1.1
  have h2 := hI.1.2.1
  unfold liveJ at hl
  omega
def mkX (j t : Nat) (X : Xs) : Xs := ((X.sI (33 + 8 * j) 6 (X.I (33 + 8 * j) 6 + 1)).sI (33 + 8 * j) 7 (nI t)).sI (33 + 8 * j) 8 (-1)
def mkY (j t : Nat) (Y : Xs) : Xs := ((Y.sI 83 j (Y.I 83 j + 1)).sI 84 j (nI t)).sI 85 j (-1)
theorem mkX_ch : Ch [33 + 8 * j] X (mkX j t X) := ((Ch.rf.sI (by simp)).sI (by simp)).sI (by simp)
theorem mkY_ch : Ch [83, 84, 85] Y (mkY j t Y) := ((Ch.rf.sI (by simp)).sI (by simp)).sI (by simp)
theorem c_mark (hj : j < 2) : fLi_markSending (b + (33 + 8 * j)) (nI t) (wX b X) = some (wX b (mkX j t X)) := by
  have hlin := li_of hj
  unfold fLi_markSending
  rw [bs (Li_i6 hlin), bs (Li_p6 hlin), bs (Li_p7 hlin), bs (Li_p8 hlin)]
  rfl
theorem mark_inv (hB : InvB b t nr np E al ln d off ls tb cur q j X Y) (hj : j < 2) (hc : cur j = some i) (h6 : X.I (33 + 8 * j) 6 = Y.I 83 j) : Inv b t nr np E al ln d off ls tb cur q (mkX j t X) (mkY j t Y) := by
  obtain ⟨hSC, hSL, hJB, hLN, hLB, hWA, hFR, hRH⟩ := hB
  refine ⟨hSC.ch mkX_ch (by intro p hp; simp only [List.mem_cons, List.not_mem_nil, or_false] at hp; omega) (K56.of mkY_ch (by simp)), hSL.ch mkX_ch (by intro p hp; simp only [List.mem_cons, List.not_mem_nil, or_false] at hp; omega) mkY_ch (by intro p hp; simp only [List.mem_cons, List.not_mem_nil, or_false] at hp; omega), hJB.ch mkX_ch (by intro p hp; simp only [List.mem_cons, List.not_mem_nil, or_false] at hp; omega) mkY_ch (by intro p hp; simp only [List.mem_cons, List.not_mem_nil, or_false] at hp; omega), fun j' hj' => ?_, fun j' hj' => (hWA j' hj').ch mkX_ch (by intro p hp; simp only [List.mem_cons, List.not_mem_nil, or_false] at hp; omega) mkY_ch (by intro p hp; simp only [List.mem_cons, List.not_mem_nil, or_false] at hp; omega), fun j' hj' => (hFR j' hj').ch mkX_ch (by intro p hp; simp only [List.mem_cons, List.not_mem_nil, or_false] at hp; omega) mkY_ch (by intro p hp; simp only [List.mem_cons, List.not_mem_nil, or_false] at hp; omega), hRH.chs mkX_ch (by intro p hp; simp only [List.mem_cons, List.not_mem_nil, or_false] at hp; omega) mkY_ch (by intro p hp; simp only [List.mem_cons, List.not_mem_nil, or_false] at hp; omega) (by rw [(mkY_ch.2.2 56 (by simp)).1])⟩
  by_cases e : j' = j
  · subst e
    obtain ⟨⟨a1, a2, a3, a4⟩, g1, ⟨c1, c2⟩, d1, e1⟩ := hLB
    have xk : ∀ k, k ≠ 6 → k ≠ 7 → k ≠ 8 → (mkX j' t X).I (33 + 8 * j') k = X.I (33 + 8 * j') k := by
      intro k h6 h7 h8
      unfold mkX
      rw [sI_I, up2_k h8, sI_I, up2_k h7, sI_I, up2_k h6]
    refine ⟨⟨a1, by rw [xk 0 (by decide) (by decide) (by decide)]; exact a2, by rw [xk 4 (by decide) (by decide) (by decide)]; exact a3, by rw [(mkY_ch.2.2 81 (by simp)).1]; exact a4⟩, fun k hk => by rw [(mkX_ch.2.2 (33 + 8 * j' + 7) (by simp)).2.1, (mkY_ch.2.2 80 (by simp)).1]; exact g1 k hk, ⟨c1, by rw [(mkY_ch.2.2 82 (by simp)).1]; exact c2⟩, d1, fun k hk => ⟨(e1 k hk).1, fun hu => ⟨((e1 k hk).2 hu).1, ((e1 k hk).2 hu).2.1, ((e1 k hk).2 hu).2.2.1, fun h64 => (((e1 k hk).2 hu).2.2.2 h64).ch mkY_ch (by intro p hp; simp only [List.mem_cons, List.not_mem_nil, or_false] at hp; omega)⟩⟩, fun hn => absurd hn (by rw [hc]; simp), fun k hk => ⟨?_, ?_, ?_, Or.inl ?_⟩⟩
    · unfold mkX mkY
      rw [sI_I, up2_k (by decide), sI_I, up2_k (by decide), sI_I, up2_s, sI_I, up2_o (by decide), sI_I, up2_o (by decide), sI_I, up2_s, h6]
    · unfold mkX mkY
      rw [sI_I, up2_k (by decide), sI_I, up2_s, sI_I, up2_o (by decide), sI_I, up2_s]
    · unfold mkX mkY
      rw [sI_I, up2_s, sI_I, up2_s]
    · unfold mkY
      rw [sI_I, up2_s]
  · refine (hLN j' hj' e).ch (LX.of mkX_ch (by intro p hp; simp only [List.mem_cons, List.not_mem_nil, or_false] at hp; omega)) ?_ (fun _ _ _ _ h => h.ch mkY_ch (by intro p hp; simp only [List.mem_cons, List.not_mem_nil, or_false] at hp; omega))
    have yk : ∀ p, (mkY j t Y).I p j' = Y.I p j' := by
      intro p
      unfold mkY
      rw [sI_I, up2_k e, sI_I, up2_k e, sI_I, up2_k e]
    exact ⟨fun k _ => by rw [(mkY_ch.2.2 80 (by simp)).1], yk 81, yk 82, yk 83, yk 84, yk 85, yk 86, rfl⟩
theorem m_send (hj : j < 2) (hji : JQ E i X Y) (hi : i < 68) (h82 : Y.I 82 j = nI i) (h0 : Y.I 56 0 = nI t) {S' : Ws} (h : fMo_carry (b + 56) (nI j) (nI (E 1 i)) (nI (E 2 i)) (nI (E 3 i)) (nI (E 4 i)) (lN (E 5 i)) (wX b (mkY j t Y)) = some S') : fMo_send (b + 56) (nI j) (wX b Y) = some S' := by
  have ej : ax (nI j) 2 = some j := ax_of hj (by decide) rfl
  have a82 : aI (wX b Y) (b + 82) 0 (nI j) = some (nI i) := by rw [mo_a82, bs ej, h82]
  have a83 : aI (wX b Y) (b + 83) 0 (nI j) = some (Y.I 83 j) := by rw [mo_a83, bs ej]
  have h0' : gI (wX b (Y.sI 83 j (Y.I 83 j + 1))) (b + 56) [8] 0 = some (nI t) := by rw [mo_i0, sI_I, up2_o (by decide), h0]
  have hk : ∀ p, p ≠ 83 → p ≠ 84 → p ≠ 85 → (mkY j t Y).I p = Y.I p := fun p h1 h2 h3 => (mkY_ch.2.2 p (by simp only [List.mem_cons, List.not_mem_nil, or_false]; omega)).1
  unfold fMo_send
  rw [bs mo_r29, Option.bind_some, bs a82, bs mo_r30, Option.bind_some, bs a83, mo_s83, ej, Option.bind_some, Option.bind_some, bs mo_r31, bs h0', Option.bind_some, mo_s84, ej, Option.bind_some, Option.bind_some, bs mo_r32, Option.bind_some, mo_s85, ej, Option.bind_some, Option.bind_some]
  have eY : ((Y.sI 83 j (Y.I 83 j + 1)).sI 84 j (nI t)).sI 85 j (-1) = mkY j t Y := rfl
  rw [eY]
  by_cases h64 : i < 64
  · obtain ⟨-, a2, a3, a4, a5, a6, -⟩ := hji.2.2.1 h64
    have ei : ax (nI i) 64 = some i := ax_of h64 (by decide) rfl
    have r66 : aI (wX b (mkY j t Y)) (b + 66) 0 (nI i) = some (nI (E 1 i)) := by rw [mo_a66, bs ei, hk 66 (by decide) (by decide) (by decide), a2]
    have r67 : aI (wX b (mkY j t Y)) (b + 67) 0 (nI i) = some (nI (E 2 i)) := by rw [mo_a67, bs ei, hk 67 (by decide) (by decide) (by decide), a3]
    have r68 : aI (wX b (mkY j t Y)) (b + 68) 0 (nI i) = some (nI (E 3 i)) := by rw [mo_a68, bs ei, hk 68 (by decide) (by decide) (by decide), a4]
    have r69 : aI (wX b (mkY j t Y)) (b + 69) 0 (nI i) = some (nI (E 4 i)) := by rw [mo_a69, bs ei, hk 69 (by decide) (by decide) (by decide), a5]
    have r70 : aL (wX b (mkY j t Y)) (b + 70) 2 (nI i) = some (lN (E 5 i)) := by
      rw [mo_a70, bs ei]
      show some (Y.J 70 i) = _
      rw [a6]
    rw [if_neg (by rw [ge_64 (by omega)]; omega), bs mo_r11, Option.bind_some, bs r66, bs mo_r12, Option.bind_some, bs r67, bs mo_r13, Option.bind_some, bs r68, bs mo_r14, Option.bind_some, bs r69, bs mo_r15, Option.bind_some, bs r70, bs mo_o, bs h]
  · obtain ⟨-, -, a3, a4, a5, a6, a7, -⟩ := hji.2.2.2 (by omega)
    have ei : ax (nI (i - 64)) 4 = some (i - 64) := ax_of (by omega) (by decide) rfl
    have e64 : nI i - (64 : Int32) = nI (i - 64) := pk_sub (b := 64) (by omega)
    have r74 : aI (wX b (mkY j t Y)) (b + 74) 0 (nI (i - 64)) = some (nI (E 1 i)) := by rw [mo_a74, bs ei, hk 74 (by decide) (by decide) (by decide), a3]
    have r75 : aI (wX b (mkY j t Y)) (b + 75) 0 (nI (i - 64)) = some (nI (E 2 i)) := by rw [mo_a75, bs ei, hk 75 (by decide) (by decide) (by decide), a4]
    have r76 : aI (wX b (mkY j t Y)) (b + 76) 0 (nI (i - 64)) = some (nI (E 3 i)) := by rw [mo_a76, bs ei, hk 76 (by decide) (by decide) (by decide), a5]
    rw [a6, a7] at h
    have h : fMo_carry (b + 56) (nI j) (nI (E 1 i)) (nI (E 2 i)) (nI (E 3 i)) (1 : Int32) (0 : Int64) (wX b (mkY j t Y)) = some S' := h
    rw [if_pos (by rw [ge_64 (by omega)]; omega), e64, bs mo_r20, Option.bind_some, bs r74, bs mo_r21, Option.bind_some, bs r75, bs mo_r22, Option.bind_some, bs r76, bs mo_o, bs h]
theorem Inv.wrQ {L : List Int32} (hI : Inv b t nr np E al ln d off ls tb cur q X Y) (hj : j < 2) (hX : Ch [33 + 8 * j + 1 + 1, 33 + 8 * j + 1 + 1 + 1] X X2) (hF : FrL X2 (33 + 8 * j + 1 + 1) L) (hY : ChM j Y Y2) (hM : FrM Y2 j L) : Inv b t nr np E al ln d off ls tb cur q X2 Y2 := by
  obtain ⟨hSC, hSL, hJB, hLN, hWA, hFR, hRH⟩ := hI
  have hc := hY.1
  refine ⟨hSC.ch hX (by intro p hp; simp only [List.mem_cons, List.not_mem_nil, or_false] at hp; omega) (K56.of hc (by simp)), hSL.ch hX (by intro p hp; simp only [List.mem_cons, List.not_mem_nil, or_false] at hp; omega) hc (by intro p hp; simp only [List.mem_cons, List.not_mem_nil, or_false] at hp; omega), hJB.ch hX (by intro p hp; simp only [List.mem_cons, List.not_mem_nil, or_false] at hp; omega) hc (by intro p hp; simp only [List.mem_cons, List.not_mem_nil, or_false] at hp; omega), fun j' hj' => (hLN j' hj').chs hX (by intro p hp; simp only [List.mem_cons, List.not_mem_nil, or_false] at hp; omega) hc (by intro p hp; simp only [List.mem_cons, List.not_mem_nil, or_false] at hp; omega), fun j' hj' => (hWA j' hj').ch hX (by intro p hp; simp only [List.mem_cons, List.not_mem_nil, or_false] at hp; omega) hc (by intro p hp; simp only [List.mem_cons, List.not_mem_nil, or_false] at hp; omega), fun j' hj' => ?_, hRH.chs hX (by intro p hp; simp only [List.mem_cons, List.not_mem_nil, or_false] at hp; omega) hc (by intro p hp; simp only [List.mem_cons, List.not_mem_nil, or_false] at hp; omega) (by rw [(hc.2.2 56 (by simp)).1])⟩
  obtain ⟨L1, L2, f1, f2, f3, f4⟩ := hFR j' hj'
  by_cases e : j' = j
  · subst e
    exact ⟨L, L2, hF, hM, f3.of (hX.2.2 _ (by simp only [List.mem_cons, List.not_mem_nil, or_false]; omega)).1 (hX.2.2 _ (by simp only [List.mem_cons, List.not_mem_nil, or_false]; omega)).1, hY.2 _ _ (by omega) f4⟩
  · exact ⟨L1, L2, f1.of (hX.2.2 _ (by simp only [List.mem_cons, List.not_mem_nil, or_false]; omega)).1 (hX.2.2 _ (by simp only [List.mem_cons, List.not_mem_nil, or_false]; omega)).1, hY.2 _ _ e f2, f3.of (hX.2.2 _ (by simp only [List.mem_cons, List.not_mem_nil, or_false]; omega)).1 (hX.2.2 _ (by simp only [List.mem_cons, List.not_mem_nil, or_false]; omega)).1, hY.2 _ _ (by omega) f4⟩
theorem LNS.chA {c : Option Nat} {q : List Nat} {X' Y' : Xs} (h : LNS b nr np E al ln j c q X Y) (x1 : X'.I (33 + 8 * j) = X.I (33 + 8 * j)) (x2 : X'.R (33 + 8 * j) = X.R (33 + 8 * j)) (x3 : X'.R (33 + 8 * j + 7) = X.R (33 + 8 * j + 7)) (hY : LY j Y Y') (hz : ∀ i, i ∈ c.toList ++ q → E 1 i ≠ 0 → i < 64 → Z0 Y i → Z0 Y' i) (hn : Y.I 85 j = -1) : LNS b nr np E al ln j c q X' Y' := by
  obtain ⟨⟨a1, a2, a3, a4⟩, b1, ⟨c1, c2⟩, d1, e1, f1, g1⟩ := h
  obtain ⟨y0, y1, y2, y3, y4, y5, y6, y7⟩ := hY
  refine ⟨⟨a1, by rw [x1]; exact a2, by rw [x1]; exact a3, by rw [y1]; exact a4⟩, fun k hk => ?_, ⟨by rw [x2]; exact c1, by rw [y2]; exact c2⟩, d1, fun i hi => ?_, fun hc => by rw [x1]; exact f1 hc, fun i hi => ?_⟩
  · rw [x3, y0 k (by omega)]; exact b1 k hk
  · refine ⟨(e1 i hi).1, fun hu => ?_⟩
    obtain ⟨m1, m2, m3, m4⟩ := (e1 i hi).2 hu
    exact ⟨m1, m2, m3, fun h64 => hz i hi hu h64 (m4 h64)⟩
  · obtain ⟨m1, m2, m3, -⟩ := g1 i hi
    rw [x1, y3, y4, y5]
    exact ⟨m1, m2, m3, Or.inl hn⟩
theorem Inv.wrA {L : List Int32} (hI : Inv b t nr np E al ln d off ls tb cur q X Y) (hj : j < 2) (h85 : Y.I 85 j = -1) (hX : Ch [33 + 8 * j + 4 + 1, 33 + 8 * j + 4 + 1 + 1] X X2) (hF : FrL X2 (33 + 8 * j + 4 + 1) L) (hY : ChM (j + 2) Y Y2) (hM : FrM Y2 (j + 2) L) : Inv b t nr np E al ln d off ls tb cur q X2 Y2 := by
  obtain ⟨hSC, hSL, hJB, hLN, hWA, hFR, hRH⟩ := hI
  have hc := hY.1
  refine ⟨hSC.ch hX (by intro p hp; simp only [List.mem_cons, List.not_mem_nil, or_false] at hp; omega) (K56.of hc (by simp)), hSL.ch hX (by intro p hp; simp only [List.mem_cons, List.not_mem_nil, or_false] at hp; omega) hc (by intro p hp; simp only [List.mem_cons, List.not_mem_nil, or_false] at hp; omega), hJB.ch hX (by intro p hp; simp only [List.mem_cons, List.not_mem_nil, or_false] at hp; omega) hc (by intro p hp; simp only [List.mem_cons, List.not_mem_nil, or_false] at hp; omega), fun j' hj' => ?_, fun j' hj' => (hWA j' hj').ch hX (by intro p hp; simp only [List.mem_cons, List.not_mem_nil, or_false] at hp; omega) hc (by intro p hp; simp only [List.mem_cons, List.not_mem_nil, or_false] at hp; omega), fun j' hj' => ?_, hRH.chs hX (by intro p hp; simp only [List.mem_cons, List.not_mem_nil, or_false] at hp; omega) hc (by intro p hp; simp only [List.mem_cons, List.not_mem_nil, or_false] at hp; omega) (by rw [(hc.2.2 56 (by simp)).1])⟩
  · by_cases e : j' = j
    · subst e
      exact (hLN j' hj').chA (hX.2.2 _ (by simp only [List.mem_cons, List.not_mem_nil, or_false]; omega)).1 (hX.2.2 _ (by simp only [List.mem_cons, List.not_mem_nil, or_false]; omega)).2.1 (hX.2.2 _ (by simp only [List.mem_cons, List.not_mem_nil, or_false]; omega)).2.1 (LY.of hc (by intro p hp; simp only [List.mem_cons, List.not_mem_nil, or_false] at hp; omega)) (fun _ _ _ _ h => h.ch hc (by intro p hp; simp only [List.mem_cons, List.not_mem_nil, or_false] at hp; omega)) h85
    · exact (hLN j' hj').chs hX (by intro p hp; simp only [List.mem_cons, List.not_mem_nil, or_false] at hp; omega) hc (by intro p hp; simp only [List.mem_cons, List.not_mem_nil, or_false] at hp; omega)
  · obtain ⟨L1, L2, f1, f2, f3, f4⟩ := hFR j' hj'
    by_cases e : j' = j
    · subst e
      exact ⟨L1, L, f1.of (hX.2.2 _ (by simp only [List.mem_cons, List.not_mem_nil, or_false]; omega)).1 (hX.2.2 _ (by simp only [List.mem_cons, List.not_mem_nil, or_false]; omega)).1, hY.2 _ _ (by omega) f2, hF, hM⟩
    · exact ⟨L1, L2, f1.of (hX.2.2 _ (by simp only [List.mem_cons, List.not_mem_nil, or_false]; omega)).1 (hX.2.2 _ (by simp only [List.mem_cons, List.not_mem_nil, or_false]; omega)).1, hY.2 _ _ (by omega) f2, f3.of (hX.2.2 _ (by simp only [List.mem_cons, List.not_mem_nil, or_false]; omega)).1 (hX.2.2 _ (by simp only [List.mem_cons, List.not_mem_nil, or_false]; omega)).1, hY.2 _ _ (by omega) f4⟩
theorem Inv.way (hI : Inv b t nr np E al ln d off ls tb cur q X Y) (hj : j < 2) (hX : Ch [33 + 8 * j + 1, 33 + 8 * j + 4] X X2) (hY : Ch [88, 89] Y Y2) (hW : WAY j X2 Y2) (ho : ∀ k, k ≠ j → Y2.I 88 k = Y.I 88 k ∧ Y2.I 89 k = Y.I 89 k) : Inv b t nr np E al ln d off ls tb cur q X2 Y2 := by
  obtain ⟨hSC, hSL, hJB, hLN, hWA, hFR, hRH⟩ := hI
  refine ⟨hSC.ch hX (by intro p hp; simp only [List.mem_cons, List.not_mem_nil, or_false] at hp; omega) (K56.of hY (by simp)), hSL.ch hX (by intro p hp; simp only [List.mem_cons, List.not_mem_nil, or_false] at hp; omega) hY (by intro p hp; simp only [List.mem_cons, List.not_mem_nil, or_false] at hp; omega), hJB.ch hX (by intro p hp; simp only [List.mem_cons, List.not_mem_nil, or_false] at hp; omega) hY (by intro p hp; simp only [List.mem_cons, List.not_mem_nil, or_false] at hp; omega), fun j' hj' => (hLN j' hj').chs hX (by intro p hp; simp only [List.mem_cons, List.not_mem_nil, or_false] at hp; omega) hY (by intro p hp; simp only [List.mem_cons, List.not_mem_nil, or_false] at hp; omega), fun j' hj' => ?_, fun j' hj' => (hFR j' hj').ch hX (by intro p hp; simp only [List.mem_cons, List.not_mem_nil, or_false] at hp; omega) hY (by intro p hp; simp only [List.mem_cons, List.not_mem_nil, or_false] at hp; omega), hRH.chs hX (by intro p hp; simp only [List.mem_cons, List.not_mem_nil, or_false] at hp; omega) hY (by intro p hp; simp only [List.mem_cons, List.not_mem_nil, or_false] at hp; omega) (by rw [(hY.2.2 56 (by simp)).1])⟩
  by_cases e : j' = j
  · subst e; exact hW
  · have := hWA j' hj'
    unfold WAY at *
    rw [(hX.2.2 (33 + 8 * j' + 1) (by simp only [List.mem_cons, List.not_mem_nil, or_false]; omega)).1, (hX.2.2 (33 + 8 * j' + 4) (by simp only [List.mem_cons, List.not_mem_nil, or_false]; omega)).1, (ho j' e).1, (ho j' e).2]
    exact this
theorem Inv.sla {ls' : Nat → Nat} {tb' : Nat → Nat → Nat → Nat} (hI : Inv b t nr np E al ln d off ls tb cur q X Y) (hX : Ch slR X X2) (hY : Ch [56, 61, 62, 64] Y Y2) (hK : ∀ q, q ≠ 39 → Y2.I 56 q = Y.I 56 q) (hS : SLA al ln d off ls' tb' X2 Y2) (h0 : X2.I 0 = X.I 0) : Inv b t nr np E al ln d off ls' tb' cur q X2 Y2 := by
  obtain ⟨hSC, hSL, hJB, hLN, hWA, hFR, hRH⟩ := hI
  have hm : ∀ p, p ∈ slR → p < 32 := fun p h => (slR_mem.mp h).2
  refine ⟨?_, hS, hJB.ch hX (fun p h => by have := hm p h; omega) hY (by intro p hp; simp only [List.mem_cons, List.not_mem_nil, or_false] at hp; omega), fun j' hj' => (hLN j' hj').chs hX (fun p h => by have := hm p h; omega) hY (by intro p hp; simp only [List.mem_cons, List.not_mem_nil, or_false] at hp; omega), fun j' hj' => (hWA j' hj').ch hX (fun p h => by have := hm p h; omega) hY (by intro p hp; simp only [List.mem_cons, List.not_mem_nil, or_false] at hp; omega), fun j' hj' => (hFR j' hj').ch hX (fun p h => by have := hm p h; omega) hY (by intro p hp; simp only [List.mem_cons, List.not_mem_nil, or_false] at hp; omega), hRH.chs hX (fun p h => by have := hm p h; omega) hY (by intro p hp; simp only [List.mem_cons, List.not_mem_nil, or_false] at hp; omega) (hK 25 (by decide))⟩
  unfold SC
  rw [h0, hK 0 (by decide), hK 10 (by decide), hK 19 (by decide)]
  exact hSC
theorem Inv.ans (hI : Inv b t nr np E al ln d off ls tb cur q X Y) (hj : j < 2) (hc : cur j = some i) (hX : Ch [33 + 8 * j] X X2) (hR : X2.R (33 + 8 * j) = X.R (33 + 8 * j)) (hk : ∀ k, k ≠ 8 → X2.I (33 + 8 * j) k = X.I (33 + 8 * j) k) (hY : Ch [85, 86, 87] Y Y2) (ho : ∀ k, k ≠ j → Y2.I 85 k = Y.I 85 k ∧ Y2.I 86 k = Y.I 86 k ∧ Y2.J 87 k = Y.J 87 k) (h8 : X2.I (33 + 8 * j) 8 = Y2.I 85 j) (hP : Y2.I 85 j = -1 ∨ PND E j i X2 Y2) : Inv b t nr np E al ln d off ls tb cur q X2 Y2 := by
  obtain ⟨hSC, hSL, hJB, hLN, hWA, hFR, hRH⟩ := hI
  refine ⟨hSC.ch hX (by intro p hp; simp only [List.mem_cons, List.not_mem_nil, or_false] at hp; omega) (K56.of hY (by simp)), hSL.ch hX (by intro p hp; simp only [List.mem_cons, List.not_mem_nil, or_false] at hp; omega) hY (by intro p hp; simp only [List.mem_cons, List.not_mem_nil, or_false] at hp; omega), hJB.ch hX (by intro p hp; simp only [List.mem_cons, List.not_mem_nil, or_false] at hp; omega) hY (by intro p hp; simp only [List.mem_cons, List.not_mem_nil, or_false] at hp; omega), fun j' hj' => ?_, fun j' hj' => (hWA j' hj').ch hX (by intro p hp; simp only [List.mem_cons, List.not_mem_nil, or_false] at hp; omega) hY (by intro p hp; simp only [List.mem_cons, List.not_mem_nil, or_false] at hp; omega), fun j' hj' => (hFR j' hj').ch hX (by intro p hp; simp only [List.mem_cons, List.not_mem_nil, or_false] at hp; omega) hY (by intro p hp; simp only [List.mem_cons, List.not_mem_nil, or_false] at hp; omega), hRH.chs hX (by intro p hp; simp only [List.mem_cons, List.not_mem_nil, or_false] at hp; omega) hY (by intro p hp; simp only [List.mem_cons, List.not_mem_nil, or_false] at hp; omega) (by rw [(hY.2.2 56 (by simp)).1])⟩
  by_cases e : j' = j
  · subst e
    have h := hLN j' hj'
    rw [hc] at h ⊢
    obtain ⟨⟨a1, a2, a3, a4⟩, b1, ⟨c1, c2⟩, d1, e1, f1, g1⟩ := h
    refine ⟨⟨a1, by rw [hk 0 (by decide)]; exact a2, by rw [hk 4 (by decide)]; exact a3, by rw [(hY.2.2 81 (by simp)).1]; exact a4⟩, fun k hk' => ?_, ⟨by rw [hR]; exact c1, by rw [(hY.2.2 82 (by simp)).1]; exact c2⟩, d1, fun k hk' => ?_, fun hn => absurd hn (by simp), fun k hk' => ?_⟩
    · rw [(hX.2.2 (33 + 8 * j' + 7) (by simp)).2.1, (hY.2.2 80 (by simp)).1]; exact b1 k hk'
    · refine ⟨(e1 k hk').1, fun hu => ?_⟩
      obtain ⟨m1, m2, m3, m4⟩ := (e1 k hk').2 hu
      exact ⟨m1, m2, m3, fun h64 => (m4 h64).ch hY (by intro p hp; simp only [List.mem_cons, List.not_mem_nil, or_false] at hp; omega)⟩
    · obtain ⟨m1, m2, -, -⟩ := g1 k hk'
      cases hk'
      refine ⟨?_, ?_, h8, hP⟩
      · rw [hk 6 (by decide), (hY.2.2 83 (by simp)).1]; exact m1
      · rw [hk 7 (by decide), (hY.2.2 84 (by simp)).1]; exact m2
  · refine (hLN j' hj').ch (LX.of hX (by intro p hp; simp only [List.mem_cons, List.not_mem_nil, or_false] at hp; omega)) ?_ (fun _ _ _ _ h => h.ch hY (by intro p hp; simp only [List.mem_cons, List.not_mem_nil, or_false] at hp; omega))
    obtain ⟨o1, o2, o3⟩ := ho j' e
    refine ⟨fun k _ => ?_, ?_, ?_, ?_, ?_, o1, o2, o3⟩
    · rw [(hY.2.2 80 (by simp)).1]
    · rw [(hY.2.2 81 (by simp)).1]
    · rw [(hY.2.2 82 (by simp)).1]
    · rw [(hY.2.2 83 (by simp)).1]
    · rw [(hY.2.2 84 (by simp)).1]
end MI
