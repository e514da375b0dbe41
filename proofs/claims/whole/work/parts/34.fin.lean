/-! A job is over on a line. -/
def stF {α : Type} (f : Nat → α) (j : Nat) (v : α) : Nat → α := fun k => if k = j then v else f k
theorem stF_s {α : Type} {f : Nat → α} {j : Nat} {v : α} : stF f j v j = v := if_pos rfl
theorem stF_o {α : Type} {f : Nat → α} {j k : Nat} {v : α} (h : k ≠ j) : stF f j v k = f k := if_neg h
def CK (X X' : Xs) : Prop := ∀ p, 56 ≤ p → p < 92 → X'.I p = X.I p ∧ X'.R p = X.R p ∧ X'.J p = X.J p
def MK (Y Y' : Xs) : Prop := Y'.n = Y.n ∧ Y'.K = Y.K ∧ ∀ p, p < 56 ∨ 92 ≤ p → Y'.I p = Y.I p ∧ Y'.R p = Y.R p ∧ Y'.J p = Y.J p
theorem CK.rf {X : Xs} : CK X X := fun _ _ _ => ⟨rfl, rfl, rfl⟩
theorem MK.rf {Y : Xs} : MK Y Y := ⟨rfl, rfl, fun _ _ => ⟨rfl, rfl, rfl⟩⟩
theorem CK.tr {X X' X2 : Xs} (h : CK X X') (h2 : CK X' X2) : CK X X2 := fun p a b => ⟨(h2 p a b).1.trans (h p a b).1, (h2 p a b).2.1.trans (h p a b).2.1, (h2 p a b).2.2.trans (h p a b).2.2⟩
theorem MK.tr {Y Y' Y2 : Xs} (h : MK Y Y') (h2 : MK Y' Y2) : MK Y Y2 := ⟨h2.1.trans h.1, h2.2.1.trans h.2.1, fun p a => ⟨(h2.2.2 p a).1.trans (h.2.2 p a).1, (h2.2.2 p a).2.1.trans (h.2.2 p a).2.1, (h2.2.2 p a).2.2.trans (h.2.2 p a).2.2⟩⟩
theorem CK.of {ps : List Nat} {X X' : Xs} (h : Ch ps X X') (hp : ∀ p, p ∈ ps → p < 56 ∨ 92 ≤ p) : CK X X' := fun p a b => h.2.2 p (fun m => by have := hp p m; omega)
theorem MK.of {ps : List Nat} {X X' : Xs} (h : Ch ps X X') (hp : ∀ p, p ∈ ps → 56 ≤ p ∧ p < 92) : MK X X' := ⟨h.1, h.2.1, fun p a => h.2.2 p (fun m => by have := hp p m; omega)⟩
section TA
variable {b t nr np j i : Nat} {E : Nat → Nat → Nat} {al ln d off ls : Nat → Nat} {tb : Nat → Nat → Nat → Nat} {cur : Nat → Option Nat} {q : Nat → List Nat} {X Y X2 Y2 : Xs}
theorem Inv.live (hI : Inv b t nr np E al ln d off ls tb cur q X Y) (hj : j < 2) (hc : cur j = some i) : liveJ nr np i ∧ JQ E i X Y ∧ i < 68 ∧ 92 ≤ E 0 i := by
  have h := hI.2.2.2.1 j hj
  rw [hc] at h
  have hl := (h.2.2.2.2.1 i (by simp)).1
  have hq := hI.2.2.1.1 i hl
  refine ⟨hl, hq, ?_, hq.1.1.1⟩
  have h1 := hI.1.1
  have h2 := hI.1.2.1
  unfold liveJ at hl
  omega
theorem fin (hI : Inv b t nr np E al ln d off ls tb cur q X Y) (hj : j < 2) (hc : cur j = some i) (hX : Ch [33 + 8 * j, 51, 52, 53, 54, 55, E 0 i] X X2) (x5 : X2.R (33 + 8 * j) 5 = none) (x0 : X2.I (33 + 8 * j) 0 = X.I (33 + 8 * j) 0) (x4 : X2.I (33 + 8 * j) 4 = X.I (33 + 8 * j) 4) (x6 : X2.I (33 + 8 * j) 6 = 0) (hY : Ch [56, 71, 72, 73, 77, 78, 79, 82, 85] Y Y2) (hK : K56 Y Y2) (y82 : Y2.I 82 j = -1) (yo : ∀ k, k ≠ j → Y2.I 82 k = Y.I 82 k ∧ Y2.I 85 k = Y.I 85 k) (yz : ∀ k, k ≠ i → Y2.I 71 k = Y.I 71 k ∧ Y2.I 72 k = Y.I 72 k ∧ Y2.J 73 k = Y.J 73 k) (hJ : JQ E i X2 Y2) (hR : RH X2 Y2) : Inv b t nr np E al ln d off ls tb (stF cur j none) q X2 Y2 := by
  obtain ⟨hli, hji, hi68, ho⟩ := hI.live hj hc
  obtain ⟨hSC, hSL, hJB, hLN, hWA, hFR, hRH⟩ := hI
  have hL := hLN j hj
  rw [hc] at hL
  have hz : ∀ k, k ≠ i → Z0 Y k → Z0 Y2 k := fun k hk h => by
    obtain ⟨e1, e2, e3⟩ := yz k hk
    unfold Z0
    rw [e1, e2, e3]
    exact h
  have on : ∀ j', j' < 2 → ∀ k, k ∈ (stF cur j none j').toList ++ q j' → E 1 k ≠ 0 → k ≠ i := by
    intro j' hj' k hk hu e
    subst e
    by_cases e : j' = j
    · subst e
      rw [stF_s] at hk
      have hn := hL.2.2.2.1
      simp at hn hk
      exact hn.1 hk
    · rw [stF_o e] at hk
      have h1 := ((hLN j' hj').2.2.2.2.1 k hk).2 hu
      have h2 := (hL.2.2.2.2.1 k (by simp)).2 hu
      have := h1.2.2.1
      have := h2.2.2.1
      omega
  refine ⟨hSC.ch hX (by intro p hp; simp only [List.mem_cons, List.not_mem_nil, or_false] at hp; omega) hK, hSL.ch hX (by intro p hp; simp only [List.mem_cons, List.not_mem_nil, or_false] at hp; omega) hY (by intro p hp; simp only [List.mem_cons, List.not_mem_nil, or_false] at hp; omega), ?_, fun j' hj' => ?_, fun j' hj' => (hWA j' hj').ch hX (by intro p hp; simp only [List.mem_cons, List.not_mem_nil, or_false] at hp; omega) hY (by intro p hp; simp only [List.mem_cons, List.not_mem_nil, or_false] at hp; omega), fun j' hj' => (hFR j' hj').ch hX (by intro p hp; simp only [List.mem_cons, List.not_mem_nil, or_false] at hp; omega) hY (by intro p hp; simp only [List.mem_cons, List.not_mem_nil, or_false] at hp; omega), hR⟩
  · obtain ⟨b1, b2, b3, b4, b5, b6⟩ := hJB
    refine ⟨fun k hk => ?_, ?_, ?_, b4, b5, fun k h1 h2 => ?_⟩
    · by_cases e : k = i
      · subst e; exact hJ
      · have hqk := b1 k hk
        have hne : E 0 k ≠ E 0 i := fun m => e (b4 k i hk hli m)
        have h92 := hqk.1.1.1
        obtain ⟨e1, e2, e3⟩ := yz k e
        refine hqk.ch hX (by simp; omega) (fun p h1 h2 h3 => ?_) ⟨by rw [(hY.2.2 70 (by simp)).2.2], e3⟩ (fun p h1 h2 => ?_)
        · have hp : p = 71 ∨ p = 72 ∨ (p ≠ 71 ∧ p ≠ 72) := by omega
          rcases hp with rfl | rfl | hp
          · exact e1
          · exact e2
          · rw [(hY.2.2 p (by simp; omega)).1]
        · rw [(hY.2.2 p (by simp; omega)).1]
    · rw [(hX.2.2 49 (by simp; omega)).2.1]; exact b2
    · rw [(hX.2.2 50 (by simp; omega)).2.1]; exact b3
    · have hni : k ≠ i := by unfold liveJ at hli; omega
      exact hz k hni (b6 k h1 h2)
  · by_cases e : j' = j
    · subst e
      rw [stF_s]
      obtain ⟨⟨a1, a2, a3, a4⟩, g1, ⟨c1, c2⟩, d1, e1, -, -⟩ := hL
      have xr7 : X2.R (33 + 8 * j' + 7) = X.R (33 + 8 * j' + 7) := (hX.2.2 _ (by simp; omega)).2.1
      have y80 : Y2.I 80 = Y.I 80 := (hY.2.2 80 (by simp)).1
      have y81 : Y2.I 81 = Y.I 81 := (hY.2.2 81 (by simp)).1
      refine ⟨⟨a1, by rw [x0]; exact a2, by rw [x4]; exact a3, by rw [y81]; exact a4⟩, fun k hk => by rw [xr7, y80]; exact g1 k hk, ⟨x5, y82⟩, ?_, fun k hk => ?_, fun _ => x6, fun k hk => by simp at hk⟩
      · simp at d1 ⊢
        exact d1.2
      · have hk' : k ∈ q j' := by simpa using hk
        have hm := e1 k (by simp; exact Or.inr hk')
        refine ⟨hm.1, fun hu => ?_⟩
        obtain ⟨m1, m2, m3, m4⟩ := hm.2 hu
        exact ⟨m1, m2, m3, fun h64 => hz k (on j' hj' k (by rw [stF_s]; exact hk) hu) (m4 h64)⟩
    · have hon := on j' hj'
      rw [stF_o e] at hon ⊢
      refine (hLN j' hj').ch (LX.of hX (by intro p hp; simp only [List.mem_cons, List.not_mem_nil, or_false] at hp; omega)) ?_ (fun k hk hu h64 h0 => hz k (hon k hk hu) h0)
      obtain ⟨o1, o2⟩ := yo j' e
      refine ⟨fun k _ => ?_, ?_, o1, ?_, ?_, o2, ?_, ?_⟩
      · rw [(hY.2.2 80 (by simp)).1]
      · rw [(hY.2.2 81 (by simp)).1]
      · rw [(hY.2.2 83 (by simp)).1]
      · rw [(hY.2.2 84 (by simp)).1]
      · rw [(hY.2.2 86 (by simp)).1]
      · rw [(hY.2.2 87 (by simp)).2.2]
end TA
