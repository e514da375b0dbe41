/-! Queues: a job is put at the end; is a poll on its way. -/
theorem lp_inv2 {σ σ' ρ ρ' : Type} {s1 : σ → Option (σ ⊕ ρ)} {s2 : σ' → Option (σ' ⊕ ρ')} (R : Nat → σ → σ' → Prop) (n : Nat) {Q : ρ → ρ' → Prop} (h1 : ∀ k x y, k < n → R k x y → ∃ x' y', s1 x = some (.inl x') ∧ s2 y = some (.inl y') ∧ R (k + 1) x' y') (h2 : ∀ x y, R n x y → ∃ r r', s1 x = some (.inr r) ∧ s2 y = some (.inr r') ∧ Q r r') (N : Nat) (x : σ) (y : σ') (hN : n < N) (h0 : R 0 x y) : ∃ r r', lp s1 N x = some r ∧ lp s2 N y = some r' ∧ Q r r' := by
  have key : ∀ j k N x y, k + j = n → j < N → R k x y → ∃ r r', lp s1 N x = some r ∧ lp s2 N y = some r' ∧ Q r r' := by
    intro j
    induction j with
    | zero =>
      intro k N x y hk hN hR
      obtain ⟨M, rfl⟩ : ∃ M, N = M + 1 := ⟨N - 1, by omega⟩
      have hk : k = n := by omega
      subst hk
      obtain ⟨r, r', e1, e2, hQ⟩ := h2 x y hR
      refine ⟨r, r', ?_, ?_, hQ⟩
      · show (s1 x).bind _ = _
        rw [e1]; rfl
      · show (s2 y).bind _ = _
        rw [e2]; rfl
    | succ j ih =>
      intro k N x y hk hN hR
      obtain ⟨M, rfl⟩ : ∃ M, N = M + 1 := ⟨N - 1, by omega⟩
      obtain ⟨x', y', e1, e2, hR'⟩ := h1 k x y (by omega) hR
      obtain ⟨r, r', f1, f2, hQ⟩ := ih (k + 1) M x' y' (by omega) (by omega) hR'
      refine ⟨r, r', ?_, ?_, hQ⟩
      · show (s1 x).bind _ = _
        rw [e1]; exact f1
      · show (s2 y).bind _ = _
        rw [e2]; exact f2
  exact key n 0 N x y (by omega) hN h0
section QU
variable {b t nr np j i : Nat} {E : Nat → Nat → Nat} {al ln d off ls : Nat → Nat} {tb : Nat → Nat → Nat → Nat} {cur : Nat → Option Nat} {q : Nat → List Nat} {X Y X2 Y2 : Xs}
theorem gd_mem {L : List Nat} {i : Nat} : (∃ m, m < L.length ∧ L.getD m 0 = i) ↔ i ∈ L := by
  constructor
  · rintro ⟨m, hm, rfl⟩
    rw [List.getD_eq_getElem?_getD, List.getElem?_eq_getElem hm]
    exact List.getElem_mem hm
  · intro h
    obtain ⟨m, hm, e⟩ := List.mem_iff_getElem.mp h
    exact ⟨m, hm, by rw [List.getD_eq_getElem?_getD, List.getElem?_eq_getElem hm]; exact e⟩
theorem enq_inv (hI : Inv b t nr np E al ln d off ls tb cur q X Y) (hj : j < 2) (hlen : (q j).length < 4) (hni : i ∉ (cur j).toList ++ q j) (hon : onL nr np E al ln j Y i) : fLi_enqueue (b + (33 + 8 * j)) (b + E 0 i) (wX b X) = some (1, wX b ((X.sR (33 + 8 * j + 7) (q j).length (some (b + E 0 i))).sI (33 + 8 * j) 4 (nI ((q j).length + 1)))) ∧ fMo_put (b + 56) (nI j) (nI i) (wX b Y) = some (wX b ((Y.sI 80 (4 * j + (q j).length) (nI i)).sI 81 j (nI ((q j).length + 1)))) ∧ Inv b t nr np E al ln d off ls tb cur (stF q j (q j ++ [i])) ((X.sR (33 + 8 * j + 7) (q j).length (some (b + E 0 i))).sI (33 + 8 * j) 4 (nI ((q j).length + 1))) ((Y.sI 80 (4 * j + (q j).length) (nI i)).sI 81 j (nI ((q j).length + 1))) := by
  have hlin := li_of hj
  have ej : ax (nI j) 2 = some j := ax_of hj (by decide) rfl
  have hjq := hI.2.2.1.1 i hon.1
  obtain ⟨hSC, hSL, hJB, hLN, hWA, hFR, hRH⟩ := hI
  have hL := hLN j hj
  obtain ⟨⟨a1, a2, a3, a4⟩, g1, ⟨c1, c2⟩, d1, e1, f1, k1⟩ := hL
  obtain ⟨n, hn⟩ : ∃ n, n = (q j).length := ⟨_, rfl⟩
  rw [← hn] at hlen a1 a3 a4 g1 ⊢
  have en : ax (nI n) 4 = some n := ax_of hlen (by decide) rfl
  have hcX : Ch [33 + 8 * j, 33 + 8 * j + 7] X ((X.sR (33 + 8 * j + 7) n (some (b + E 0 i))).sI (33 + 8 * j) 4 (nI (n + 1))) := (Ch.rf.sR (by simp)).sI (by simp)
  have hcY : Ch [80, 81] Y ((Y.sI 80 (4 * j + n) (nI i)).sI 81 j (nI (n + 1))) := (Ch.rf.sI (by simp)).sI (by simp)
  refine ⟨?_, ?_, ?_⟩
  · have g4 : gI (wX b X) (b + (33 + 8 * j)) [2] 4 = some (nI n) := by rw [Li_i4 hlin, a3]
    have g4' : gI (wX b (X.sR (33 + 8 * j + 7) n (some (b + E 0 i)))) (b + (33 + 8 * j)) [2] 4 = some (nI n) := by rw [Li_i4 hlin, sR_I, a3]
    unfold fLi_enqueue
    rw [bs g4, if_pos (by rw [l_4 (by omega)]; exact hlen), bs (Li_r3 hlin), bs g4, Option.bind_some, bs (s_ck hjq.1.1), Li_s7 hlin, en, Option.bind_some, Option.bind_some, bs g4', nI_1, bs (Li_p4 hlin), bs bz_1]
  · have e4 : (4 : Int32) * nI j + nI n = nI (4 * j + n) := by
      rw [show (4 : Int32) * nI j = nI (4 * j) from pk_mul 4 j, nI_add]
    have a81 : aI (wX b Y) (b + 81) 0 (nI j) = some (nI n) := by rw [mo_a81, bs ej, a4]
    have a81' : aI (wX b (Y.sI 80 (4 * j + n) (nI i))) (b + 81) 0 (nI j) = some (nI n) := by rw [mo_a81, bs ej, sI_I, up2_o (by decide), a4]
    unfold fMo_put
    rw [bs mo_r27, bs mo_r28, Option.bind_some, bs a81, Option.bind_some, e4, mo_s80, ax_of (show 4 * j + n < 8 by omega) (by decide) rfl, Option.bind_some, Option.bind_some, bs mo_r28, Option.bind_some, bs a81', nI_1, mo_s81, ej, Option.bind_some, Option.bind_some]
  · refine ⟨hSC.ch hcX (by intro p hp; simp only [List.mem_cons, List.not_mem_nil, or_false] at hp; omega) (K56.of hcY (by simp)), hSL.ch hcX (by intro p hp; simp only [List.mem_cons, List.not_mem_nil, or_false] at hp; omega) hcY (by intro p hp; simp only [List.mem_cons, List.not_mem_nil, or_false] at hp; omega), hJB.ch hcX (by intro p hp; simp only [List.mem_cons, List.not_mem_nil, or_false] at hp; omega) hcY (by intro p hp; simp only [List.mem_cons, List.not_mem_nil, or_false] at hp; omega), fun j' hj' => ?_, fun j' hj' => (hWA j' hj').ch hcX (by intro p hp; simp only [List.mem_cons, List.not_mem_nil, or_false] at hp; omega) hcY (by intro p hp; simp only [List.mem_cons, List.not_mem_nil, or_false] at hp; omega), fun j' hj' => (hFR j' hj').ch hcX (by intro p hp; simp only [List.mem_cons, List.not_mem_nil, or_false] at hp; omega) hcY (by intro p hp; simp only [List.mem_cons, List.not_mem_nil, or_false] at hp; omega), hRH.chs hcX (by intro p hp; simp only [List.mem_cons, List.not_mem_nil, or_false] at hp; omega) hcY (by intro p hp; simp only [List.mem_cons, List.not_mem_nil, or_false] at hp; omega) (by rw [(hcY.2.2 56 (by simp)).1])⟩
    have honk : ∀ j'' k, onL nr np E al ln j'' Y k → onL nr np E al ln j'' ((Y.sI 80 (4 * j + n) (nI i)).sI 81 j (nI (n + 1))) k := fun j'' k hm => ⟨hm.1, fun hu => ⟨(hm.2 hu).1, (hm.2 hu).2.1, (hm.2 hu).2.2.1, fun h64 => ((hm.2 hu).2.2.2 h64).ch hcY (by intro p hp; simp only [List.mem_cons, List.not_mem_nil, or_false] at hp; omega)⟩⟩
    by_cases e : j' = j
    · subst e
      rw [stF_s]
      have hl1 : (q j' ++ [i]).length = n + 1 := by rw [List.length_append, ← hn]; rfl
      have xk : ∀ k, k ≠ 4 → ((X.sR (33 + 8 * j' + 7) n (some (b + E 0 i))).sI (33 + 8 * j') 4 (nI (n + 1))).I (33 + 8 * j') k = X.I (33 + 8 * j') k := by
        intro k hk
        rw [sI_I, up2_k hk]; rfl
      refine ⟨⟨by rw [hl1]; omega, ?_, ?_, ?_⟩, fun k hk => ?_, ⟨?_, ?_⟩, ?_, fun k hk => ?_, fun hc => ?_, fun k hk => ?_⟩
      · rw [xk 0 (by decide)]; exact a2
      · rw [sI_I, up2_s, hl1]
      · rw [sI_I, up2_s, hl1]
      · rw [hl1] at hk
        by_cases ek : k = n
        · subst ek
          have hg : (q j' ++ [i]).getD k 0 = i := by
            rw [List.getD_eq_getElem?_getD, hn]
            simp
          rw [hg, sI_R, sR_R, up2_s, sI_I, up2_o (by decide), sI_I, up2_s]
          exact ⟨rfl, rfl⟩
        · have hg : (q j' ++ [i]).getD k 0 = (q j').getD k 0 := by
            rw [List.getD_eq_getElem?_getD, List.getD_eq_getElem?_getD, List.getElem?_append_left (by omega)]
          rw [hg, sI_R, sR_R, up2_k ek, sI_I, up2_o (by decide), sI_I, up2_k (by omega)]
          exact g1 k (by omega)
      · rw [sI_R, sR_R, up2_o (by omega)]; exact c1
      · rw [sI_I, up2_o (by decide), sI_I, up2_o (by decide)]; exact c2
      · rw [← List.append_assoc]
        exact List.nodup_append.mpr ⟨d1, by simp, fun x hx y hy => by simp at hy; subst hy; intro h; subst h; exact hni hx⟩
      · rw [← List.append_assoc, List.mem_append] at hk
        rcases hk with hk | hk
        · exact honk _ k (e1 k hk)
        · simp at hk; subst hk; exact honk _ _ hon
      · rw [xk 6 (by decide)]; exact f1 hc
      · obtain ⟨m1, m2, m3, m4⟩ := k1 k hk
        rw [xk 6 (by decide), xk 7 (by decide), xk 8 (by decide)]
        have yk : ∀ p, p ≠ 80 → p ≠ 81 → ((Y.sI 80 (4 * j' + n) (nI i)).sI 81 j' (nI (n + 1))).I p = Y.I p := fun p h1 h2 => (hcY.2.2 p (by simp; omega)).1
        rw [yk 83 (by decide) (by decide), yk 84 (by decide) (by decide), yk 85 (by decide) (by decide)]
        refine ⟨m1, m2, m3, ?_⟩
        rcases m4 with m4 | ⟨n1, r, sv, n2, n3, n4, n5⟩
        · exact Or.inl m4
        · exact Or.inr ⟨n1, r, sv, n2, n3, n4.of (hcX.2.2 _ (by simp only [List.mem_cons, List.not_mem_nil, or_false]; omega)).1 (hcX.2.2 _ (by simp only [List.mem_cons, List.not_mem_nil, or_false]; omega)).1, by rw [yk 86 (by decide) (by decide)]; exact n5⟩
    · rw [stF_o e]
      refine (hLN j' hj').ch (LX.of hcX (by intro p hp; simp only [List.mem_cons, List.not_mem_nil, or_false] at hp; omega)) ⟨fun k hk => ?_, ?_, ?_, ?_, ?_, ?_, ?_, ?_⟩ (fun _ _ _ _ h => h.ch hcY (by intro p hp; simp only [List.mem_cons, List.not_mem_nil, or_false] at hp; omega))
      · rw [sI_I, up2_o (by decide), sI_I, up2_k (by omega)]
      · rw [sI_I, up2_k e, sI_I, up2_o (by decide)]
      · rw [(hcY.2.2 82 (by simp)).1]
      · rw [(hcY.2.2 83 (by simp)).1]
      · rw [(hcY.2.2 84 (by simp)).1]
      · rw [(hcY.2.2 85 (by simp)).1]
      · rw [(hcY.2.2 86 (by simp)).1]
      · rw [(hcY.2.2 87 (by simp)).2.2]
theorem enq_full (hI : Inv b t nr np E al ln d off ls tb cur q X Y) (hj : j < 2) (hlen : ¬ (q j).length < 4) {o : Nat} : fLi_enqueue (b + (33 + 8 * j)) (b + o) (wX b X) = some (0, wX b X) := by
  have hlin := li_of hj
  have hL := hI.2.2.2.1 j hj
  have hl := hL.1.1
  have g4 : gI (wX b X) (b + (33 + 8 * j)) [2] 4 = some (nI (q j).length) := by rw [Li_i4 hlin, hL.1.2.2.1]
  unfold fLi_enqueue
  rw [bs g4, if_neg (by rw [l_4 (by omega)]; exact hlen), bs bz_0]
theorem c_has (hI : Inv b t nr np E al ln d off ls tb cur q X Y) (hj : j < 2) (hli : liveJ nr np i) : ∃ r, fLi_has (b + (33 + 8 * j)) (b + E 0 i) (wX b X) = some (r, wX b X) ∧ ((i ∈ (cur j).toList ++ q j ∧ r = 1) ∨ (i ∉ (cur j).toList ++ q j ∧ r = 0)) := by
  have hlin := li_of hj
  have hL := hI.2.2.2.1 j hj
  have hinj := hI.2.2.1.2.2.2.1
  obtain ⟨⟨a1, a2, a3, a4⟩, g1, ⟨c1, c2⟩, d1, e1, f1, k1⟩ := hL
  have g4 : gI (wX b X) (b + (33 + 8 * j)) [2] 4 = some (nI (q j).length) := by rw [Li_i4 hlin, a3]
  have g5 : gR (wX b X) (b + (33 + 8 * j)) [2] 5 = some ((cur j).map (fun i => b + E 0 i)) := by rw [Li_q5 hlin, c1]
  have hcur : ((cur j).map (fun i => b + E 0 i) = some (b + E 0 i)) ↔ cur j = some i := by
    cases hc : cur j with
    | none => simp
    | some k =>
      constructor
      · intro h
        have h : b + E 0 k = b + E 0 i := Option.some.inj h
        have := hinj k i (e1 k (by rw [hc]; simp)).1 hli (by omega)
        rw [this]
      · intro h
        have h : k = i := Option.some.inj h
        rw [h]; rfl
  have key : ∀ m k N, k + m = (q j).length → m < N → ∃ r, lp (fLi_has_L2 (wX b X) (b + (33 + 8 * j)) (b + E 0 i)) N (nI k) = some (r, wX b X) ∧ (((cur j = some i ∨ ∃ z, k ≤ z ∧ z < (q j).length ∧ (q j).getD z 0 = i) ∧ r = 1) ∨ (¬ (cur j = some i ∨ ∃ z, k ≤ z ∧ z < (q j).length ∧ (q j).getD z 0 = i) ∧ r = 0)) := by
    intro m
    induction m with
    | zero =>
      intro k N hk hN
      obtain ⟨M, rfl⟩ : ∃ M, N = M + 1 := ⟨N - 1, by omega⟩
      by_cases e : cur j = some i
      · refine ⟨1, ?_, Or.inl ⟨Or.inl e, rfl⟩⟩
        show (fLi_has_L2 (wX b X) (b + (33 + 8 * j)) (b + E 0 i) (nI k)).bind _ = _
        unfold fLi_has_L2
        rw [bs g4, if_pos (nI_le (by omega) (by omega)), bs g5, if_pos (hcur.mpr e), bs bz_1, Option.bind_some]
      · refine ⟨0, ?_, Or.inr ⟨fun h => ?_, rfl⟩⟩
        · show (fLi_has_L2 (wX b X) (b + (33 + 8 * j)) (b + E 0 i) (nI k)).bind _ = _
          unfold fLi_has_L2
          rw [bs g4, if_pos (nI_le (by omega) (by omega)), bs g5, if_neg (fun h => e (hcur.mp h)), bs bz_0, Option.bind_some]
        · rcases h with h | ⟨z, h1, h2, -⟩
          · exact e h
          · omega
    | succ m ih =>
      intro k N hk hN
      obtain ⟨M, rfl⟩ : ∃ M, N = M + 1 := ⟨N - 1, by omega⟩
      have ar : aR (wX b X) (b + (33 + 8 * j + 7)) 7 (nI k) = some (some (b + E 0 ((q j).getD k 0))) := by rw [Li_a7 hlin, bs (ax_of (show k < 4 by omega) (by decide) rfl), (g1 k (by omega)).1]
      have hlk : liveJ nr np ((q j).getD k 0) := (e1 _ (List.mem_append_right _ (gd_mem.mp ⟨k, by omega, rfl⟩))).1
      by_cases e : (q j).getD k 0 = i
      · refine ⟨1, ?_, Or.inl ⟨Or.inr ⟨k, Nat.le_refl _, by omega, e⟩, rfl⟩⟩
        show (fLi_has_L2 (wX b X) (b + (33 + 8 * j)) (b + E 0 i) (nI k)).bind _ = _
        unfold fLi_has_L2
        rw [bs g4, if_neg (nI_ge (show k < (q j).length by omega) (by omega)), if_neg (show ¬ (4 : Int32) ≤ nI k by rw [ge_4 (by omega)]; omega), bs (Li_r3 hlin), Option.bind_some, bs ar, if_pos (by rw [e]), bs bz_1, Option.bind_some]
      · obtain ⟨r, h1, h2⟩ := ih (k + 1) M (by omega) (by omega)
        refine ⟨r, ?_, ?_⟩
        · show (fLi_has_L2 (wX b X) (b + (33 + 8 * j)) (b + E 0 i) (nI k)).bind _ = _
          unfold fLi_has_L2
          rw [bs g4, if_neg (nI_ge (show k < (q j).length by omega) (by omega)), if_neg (show ¬ (4 : Int32) ≤ nI k by rw [ge_4 (by omega)]; omega), bs (Li_r3 hlin), Option.bind_some, bs ar, if_neg (fun h => e (hinj _ i hlk hli (by have := Option.some.inj h; omega))), Option.bind_some, nI_1]
          exact h1
        · have hiff : (cur j = some i ∨ ∃ z, k ≤ z ∧ z < (q j).length ∧ (q j).getD z 0 = i) ↔ (cur j = some i ∨ ∃ z, k + 1 ≤ z ∧ z < (q j).length ∧ (q j).getD z 0 = i) := by
            constructor
            · rintro (h | ⟨z, z1, z2, z3⟩)
              · exact Or.inl h
              · refine Or.inr ⟨z, ?_, z2, z3⟩
                by_cases ez : z = k
                · subst ez; exact absurd z3 e
                · omega
            · rintro (h | ⟨z, z1, z2, z3⟩)
              · exact Or.inl h
              · exact Or.inr ⟨z, by omega, z2, z3⟩
          rw [hiff]
          exact h2
  obtain ⟨r, h1, h2⟩ := key (q j).length 0 1000 (by omega) (by omega)
  refine ⟨r, h1, ?_⟩
  have hiff : (cur j = some i ∨ ∃ z, 0 ≤ z ∧ z < (q j).length ∧ (q j).getD z 0 = i) ↔ i ∈ (cur j).toList ++ q j := by
    rw [List.mem_append, ← gd_mem (L := q j)]
    constructor
    · rintro (h | ⟨z, -, z2, z3⟩)
      · left; rw [h]; simp
      · exact Or.inr ⟨z, z2, z3⟩
    · rintro (h | ⟨z, z2, z3⟩)
      · left
        cases hc : cur j with
        | none => rw [hc] at h; simp at h
        | some k => rw [hc] at h; simp at h; rw [h]
      · exact Or.inr ⟨z, by omega, z2, z3⟩
  rw [hiff] at h2
  exact h2
theorem m_polls (hI : Inv b t nr np E al ln d off ls tb cur q X Y) (hj : j < 2) {p : Nat} (hp : p < 4) : ∃ r, fMo_polls (b + 56) (nI j) (nI p) (wX b Y) = some (r, wX b Y) ∧ ((64 + p ∈ (cur j).toList ++ q j ∧ r = 1) ∨ (64 + p ∉ (cur j).toList ++ q j ∧ r = 0)) := by
  have ej : ax (nI j) 2 = some j := ax_of hj (by decide) rfl
  have h64 := hI.1.1
  have hnp := hI.1.2.1
  have hL := hI.2.2.2.1 j hj
  obtain ⟨⟨a1, a2, a3, a4⟩, g1, ⟨c1, c2⟩, d1, e1, f1, k1⟩ := hL
  have hlt : ∀ k, liveJ nr np k → k < 68 := fun k h => by unfold liveJ at h; omega
  have a82 : aI (wX b Y) (b + 82) 0 (nI j) = some (busyI (cur j)) := by rw [mo_a82, bs ej, c2]
  have a81 : aI (wX b Y) (b + 81) 0 (nI j) = some (nI (q j).length) := by rw [mo_a81, bs ej, a4]
  have e64 : (64 : Int32) + nI p = nI (64 + p) := nI_add 64 p
  have hcur : (busyI (cur j) = nI (64 + p)) ↔ cur j = some (64 + p) := by
    cases hc : cur j with
    | none =>
      constructor
      · intro h
        have h : (-1 : Int32) = nI (64 + p) := h
        exact absurd h (ne_m1 (by omega))
      · intro h; cases h
    | some k =>
      have := hlt k (e1 k (by rw [hc]; simp)).1
      constructor
      · intro h
        have h : k = 64 + p := (nI_eq (by omega) (by omega)).mp h
        rw [h]
      · intro h
        have h : k = 64 + p := Option.some.inj h
        rw [h]; rfl
  obtain ⟨r0, hr0, hr1⟩ : ∃ r0, (if busyI (cur j) = nI (64 + p) then some (1 : Int32) else some (0 : Int32)) = some r0 ∧ ((cur j = some (64 + p) ∧ r0 = 1) ∨ (¬ cur j = some (64 + p) ∧ r0 = 0)) := by
    by_cases e : cur j = some (64 + p)
    · exact ⟨1, by rw [if_pos (hcur.mpr e)], Or.inl ⟨e, rfl⟩⟩
    · exact ⟨0, by rw [if_neg (fun h => e (hcur.mp h))], Or.inr ⟨e, rfl⟩⟩
  have key := lp_inv (step := fMo_polls_L22 (wX b Y) (b + 56) (nI j) (nI p)) (Q := fun r => ((cur j = some (64 + p) ∨ ∃ z, z < (q j).length ∧ (q j).getD z 0 = 64 + p) ∧ r = 1) ∨ (¬ (cur j = some (64 + p) ∨ ∃ z, z < (q j).length ∧ (q j).getD z 0 = 64 + p) ∧ r = 0)) (fun k s => s.2 = nI k ∧ (((cur j = some (64 + p) ∨ ∃ z, z < k ∧ (q j).getD z 0 = 64 + p) ∧ s.1 = 1) ∨ (¬ (cur j = some (64 + p) ∨ ∃ z, z < k ∧ (q j).getD z 0 = 64 + p) ∧ s.1 = 0))) (q j).length ?_ ?_ 1000 (r0, (0 : Int32)) (by omega) ⟨rfl, ?_⟩
  · obtain ⟨r, k1, k2⟩ := key
    refine ⟨r, ?_, ?_⟩
    · have hbz : bz r = some r := by
        rcases k2 with ⟨-, rfl⟩ | ⟨-, rfl⟩
        · rfl
        · rfl
      unfold fMo_polls
      rw [bs mo_r29, Option.bind_some, bs a82, e64, bs hr0, bs k1, bs hbz]
    · have hiff : (cur j = some (64 + p) ∨ ∃ z, z < (q j).length ∧ (q j).getD z 0 = 64 + p) ↔ 64 + p ∈ (cur j).toList ++ q j := by
        rw [List.mem_append, ← gd_mem (L := q j)]
        constructor
        · rintro (h | h)
          · left; rw [h]; simp
          · exact Or.inr h
        · rintro (h | h)
          · left
            cases hc : cur j with
            | none => rw [hc] at h; simp at h
            | some k => rw [hc] at h; simp at h; rw [h]
          · exact Or.inr h
      rw [hiff] at k2
      exact k2
  · rintro k ⟨s1, s2⟩ hk ⟨hs, hi⟩
    have hs : s2 = nI k := hs
    subst hs
    have hi : ((cur j = some (64 + p) ∨ ∃ z, z < k ∧ (q j).getD z 0 = 64 + p) ∧ s1 = 1) ∨ (¬ (cur j = some (64 + p) ∨ ∃ z, z < k ∧ (q j).getD z 0 = 64 + p) ∧ s1 = 0) := hi
    have e4 : (4 : Int32) * nI j + nI k = nI (4 * j + k) := by
      rw [show (4 : Int32) * nI j = nI (4 * j) from pk_mul 4 j, nI_add]
    have a80 : aI (wX b Y) (b + 80) 0 (nI (4 * j + k)) = some (nI ((q j).getD k 0)) := by rw [mo_a80, bs (ax_of (show 4 * j + k < 8 by omega) (by decide) rfl), (g1 k hk).2]
    have hlk := hlt _ (e1 _ (List.mem_append_right _ (gd_mem.mp ⟨k, hk, rfl⟩))).1
    have hstep : ∀ r, (if s1 = 0 then if nI ((q j).getD k 0) = nI (64 + p) then some (1 : Int32) else some (0 : Int32) else some (1 : Int32)) = some r → fMo_polls_L22 (wX b Y) (b + 56) (nI j) (nI p) (s1, nI k) = some (.inl (r, nI (k + 1))) := by
      intro r hr
      unfold fMo_polls_L22
      dsimp only
      rw [bs mo_r28, Option.bind_some, bs a81, if_neg (nI_ge hk (by omega)), bs mo_r27, Option.bind_some, e4, bs a80, e64, bs hr, nI_1]
    rcases hi with ⟨hP, rfl⟩ | ⟨hP, rfl⟩
    · refine ⟨_, hstep 1 (by rw [if_neg (by decide)]), rfl, Or.inl ⟨?_, rfl⟩⟩
      rcases hP with h | ⟨z, z1, z2⟩
      · exact Or.inl h
      · exact Or.inr ⟨z, by omega, z2⟩
    · by_cases e : (q j).getD k 0 = 64 + p
      · exact ⟨_, hstep 1 (by rw [if_pos rfl, if_pos (by rw [e])]), rfl, Or.inl ⟨Or.inr ⟨k, by omega, e⟩, rfl⟩⟩
      · refine ⟨_, hstep 0 (by rw [if_pos rfl, if_neg (fun h => e ((nI_eq (by omega) (by omega)).mp h))]), rfl, Or.inr ⟨?_, rfl⟩⟩
        rintro (h | ⟨z, z1, z2⟩)
        · exact hP (Or.inl h)
        · by_cases ez : z = k
          · subst ez; exact e z2
          · exact hP (Or.inr ⟨z, by omega, z2⟩)
  · rintro ⟨s1, s2⟩ ⟨hs, hi⟩
    have hs : s2 = nI (q j).length := hs
    subst hs
    refine ⟨s1, ?_, hi⟩
    unfold fMo_polls_L22
    dsimp only
    rw [bs mo_r28, Option.bind_some, bs a81, if_pos (nI_le (Nat.le_refl _) (by omega))]
  · rcases hr1 with ⟨h, e⟩ | ⟨h, e⟩
    · exact Or.inl ⟨Or.inl h, e⟩
    · refine Or.inr ⟨?_, e⟩
      rintro (h' | ⟨z, z1, -⟩)
      · exact h h'
      · omega
end QU
