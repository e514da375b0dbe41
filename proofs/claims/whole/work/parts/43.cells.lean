/-! Calls that read or write a slave: cell, process, attach, power. -/
section CE
variable {b t nr np j i : Nat} {E : Nat → Nat → Nat} {al ln d off ls : Nat → Nat} {tb : Nat → Nat → Nat → Nat} {cur : Nat → Option Nat} {q : Nat → List Nat} {X Y X2 Y2 : Xs}
def Rel (b t : Nat) (X Y : Xs) : Prop := ∃ nr np E al ln d off, Rel2 b t nr np E al ln d off X Y
theorem Inv.rel (h : Inv b t nr np E al ln d off ls tb cur q X Y) : Rel b t X Y := ⟨_, _, _, _, _, _, _, _, _, _, _, h⟩
theorem ct_a {s f k : Nat} (hs : s < 6) (h1 : 1 ≤ f) (h4 : f ≤ 4) (hk : k < tn f) : aI (wX b X) (b + (2 + 5 * s + f)) 0 (nI k) = some (X.I (2 + 5 * s + f) k) := by
  have hp := isSl_of hs
  have h : f = 1 ∨ f = 2 ∨ f = 3 ∨ f = 4 := by omega
  rcases h with rfl | rfl | rfl | rfl
  · rw [Sl_a1 hp, bs (ax_of (show k < 16 from hk) (by decide) rfl)]
  · rw [Sl_a2 hp, bs (ax_of (show k < 16 from hk) (by decide) rfl)]
  · rw [Sl_a3 hp, bs (ax_of (show k < 8 from hk) (by decide) rfl)]
  · rw [Sl_a4 hp, bs (ax_of (show k < 8 from hk) (by decide) rfl)]
theorem ct_s {s f k : Nat} {x : Int32} (hs : s < 6) (h1 : 1 ≤ f) (h4 : f ≤ 4) (hk : k < tn f) : sI (wX b X) (b + (2 + 5 * s + f)) 0 (nI k) x = some (wX b (X.sI (2 + 5 * s + f) k x)) := by
  have hp := isSl_of hs
  have h : f = 1 ∨ f = 2 ∨ f = 3 ∨ f = 4 := by omega
  rcases h with rfl | rfl | rfl | rfl
  · rw [Sl_s1 hp, bs (ax_of (show k < 16 from hk) (by decide) rfl)]
  · rw [Sl_s2 hp, bs (ax_of (show k < 16 from hk) (by decide) rfl)]
  · rw [Sl_s3 hp, bs (ax_of (show k < 8 from hk) (by decide) rfl)]
  · rw [Sl_s4 hp, bs (ax_of (show k < 8 from hk) (by decide) rfl)]
theorem ct_n {s f : Nat} (hs : s < 6) (h1 : 1 ≤ f) (h4 : f ≤ 4) : aN (wX b X) (b + (2 + 5 * s + f)) 0 = some (nI (tn f)) := by
  have hp := isSl_of hs
  have h : f = 1 ∨ f = 2 ∨ f = 3 ∨ f = 4 := by omega
  rcases h with rfl | rfl | rfl | rfl
  · rw [Sl_n1 hp]; rfl
  · rw [Sl_n2 hp]; rfl
  · rw [Sl_n3 hp]; rfl
  · rw [Sl_n4 hp]; rfl
theorem tn_b (f : Nat) : 8 ≤ tn f ∧ tn f ≤ 16 := by unfold tn; split <;> omega
theorem c_place {s f : Nat} (hs : s < 6) (h1 : 1 ≤ f) (h4 : f ≤ 4) {k : Nat} (hk : k < tn f) : fPl_isPlace (b + (2 + 5 * s + f)) (nI k) (wX b X) = some (1, wX b X) := by
  have := tn_b f
  unfold fPl_isPlace
  rw [if_neg (nI_pos (by omega)), bs (ct_n hs h1 h4), if_neg (nI_ge hk (by omega)), bs bz_1]
theorem c_placeN {s f : Nat} (hs : s < 6) (h1 : 1 ≤ f) (h4 : f ≤ 4) {x : Int32} (hx : x < nI 0 ∨ nI (tn f - 1) < x) : fPl_isPlace (b + (2 + 5 * s + f)) x (wX b X) = some (0, wX b X) := by
  have := tn_b f
  unfold fPl_isPlace
  by_cases e : x < 0
  · rw [if_pos e, bs bz_0]
  · rw [if_neg e, bs (ct_n hs h1 h4)]
    rcases hx with h | h
    · exact absurd h e
    · have h2 : nI (tn f) ≤ x := by
        rw [i_lt, nI_toInt (by omega)] at h
        rw [i_le, nI_toInt (by omega)]
        omega
      rw [if_pos h2, bs bz_0]
theorem m_i7 {f : Nat} (h1 : 1 ≤ f) (h4 : f ≤ 4) : (if (3 : Int32) ≤ nI f then some (7 : Int32) else some (15 : Int32)) = some (nI (tn f - 1)) := by
  have h : f = 1 ∨ f = 2 ∨ f = 3 ∨ f = 4 := by omega
  rcases h with rfl | rfl | rfl | rfl
  · rfl
  · rfl
  · rfl
  · rfl
theorem m_place {n f k : Nat} (S : Ws) (n1 : 1 ≤ n) (n6 : n ≤ 6) (h1 : 1 ≤ f) (h4 : f ≤ 4) (hk : k < tn f) : fMo_place (nI n) (nI f) (nI k) S = some (1, S) := by
  have := tn_b f
  have w1 : fMo_within (nI n) (1 : Int32) (6 : Int32) S = some (1, S) := w_in (lo := 1) (hi := 6) S n1 n6 (by decide)
  have w2 : fMo_within (nI f) (1 : Int32) (4 : Int32) S = some (1, S) := w_in (lo := 1) (hi := 4) S h1 h4 (by decide)
  have w3 : fMo_within (nI k) (0 : Int32) (nI (tn f - 1)) S = some (1, S) := w_in (lo := 0) S (by omega) (by omega) (by omega)
  unfold fMo_place
  rw [bs w1]
  dsimp only
  rw [if_neg (by decide), bs w2]
  dsimp only
  rw [if_neg (by decide), bs (m_i7 h1 h4), bs w3]
  dsimp only
  rw [if_neg (by decide), bs bz_1]
theorem m_place1 {x y z : Int32} (S : Ws) (h : x < nI 1 ∨ nI 6 < x) : fMo_place x y z S = some (0, S) := by
  have wo : fMo_within x (1 : Int32) (6 : Int32) S = some (0, S) := w_out S h
  unfold fMo_place
  rw [bs wo]
  dsimp only
  rw [if_pos rfl, bs bz_0]
theorem m_place2 {n : Nat} {y z : Int32} (S : Ws) (n1 : 1 ≤ n) (n6 : n ≤ 6) (h : y < nI 1 ∨ nI 4 < y) : fMo_place (nI n) y z S = some (0, S) := by
  have w1 : fMo_within (nI n) (1 : Int32) (6 : Int32) S = some (1, S) := w_in (lo := 1) (hi := 6) S n1 n6 (by decide)
  have wo : fMo_within y (1 : Int32) (4 : Int32) S = some (0, S) := w_out S h
  unfold fMo_place
  rw [bs w1]
  dsimp only
  rw [if_neg (by decide), bs wo]
  dsimp only
  rw [if_pos rfl, bs bz_0]
theorem m_place3 {n f : Nat} {z : Int32} (S : Ws) (n1 : 1 ≤ n) (n6 : n ≤ 6) (h1 : 1 ≤ f) (h4 : f ≤ 4) (h : z < nI 0 ∨ nI (tn f - 1) < z) : fMo_place (nI n) (nI f) z S = some (0, S) := by
  have w1 : fMo_within (nI n) (1 : Int32) (6 : Int32) S = some (1, S) := w_in (lo := 1) (hi := 6) S n1 n6 (by decide)
  have w2 : fMo_within (nI f) (1 : Int32) (4 : Int32) S = some (1, S) := w_in (lo := 1) (hi := 4) S h1 h4 (by decide)
  have wo : fMo_within z (0 : Int32) (nI (tn f - 1)) S = some (0, S) := w_out S h
  unfold fMo_place
  rw [bs w1]
  dsimp only
  rw [if_neg (by decide), bs w2]
  dsimp only
  rw [if_neg (by decide), bs (m_i7 h1 h4), bs wo]
  dsimp only
  rw [if_pos rfl, bs bz_0]
theorem cell_step (hI : Inv b t nr np E al ln d off ls tb cur q X Y) (x y z : Int32) : ∃ r, fPl_cell b x y z (wX b X) = some (r, wX b X) ∧ fMo_cell (b + 56) x y z (wX b Y) = some (r, wX b Y) := by
  have zero : ∀ {x y z : Int32}, fMo_place x y z (wX b Y) = some (0, wX b Y) → fMo_cell (b + 56) x y z (wX b Y) = some (-1, wX b Y) := by
    intro x y z h
    unfold fMo_cell
    rw [bs h]
    dsimp only
    rw [if_pos rfl]
  rcases tri x (lo := 1) (hi := 6) (by omega) (by omega) with ⟨n, n1, n6, rfl⟩ | h
  · have hs : n - 1 < 6 := by omega
    have em : nI n - (1 : Int32) = nI (n - 1) := pk_sub (b := 1) (by omega)
    obtain ⟨qs, gs⟩ := Sl_o (b := b) (X := X) (isSl_of hs)
    rcases tri y (lo := 1) (hi := 4) (by omega) (by omega) with ⟨f, f1, f4, rfl⟩ | h
    · have ht := tn_b f
      have pre : ∀ R, ((fPl_isPlace (b + (2 + 5 * (n - 1) + f)) z (wX b X)).bind fun (v12, S11) => if v12 = 0 then some ((-1 : Int32), S11) else (aI S11 (b + (2 + 5 * (n - 1) + f)) 0 z).bind fun v13 => some (v13, S11)) = R → fPl_cell b (nI n) (nI f) z (wX b X) = R := by
        intro R hR
        unfold fPl_cell
        rw [bs (s_in _ n1 n6)]
        dsimp only
        rw [if_neg (by decide), if_neg (by rw [l_1 (by omega)]; omega), if_pos (by rw [le_4 (by omega)]; omega), bs pl_r0, Option.bind_some, em, sa_r, bs (ax_of hs (by decide) rfl), if_pos hs, Option.bind_some, Option.bind_some, bs gs, bs (c_tableOf hs f1 f4)]
        exact hR
      rcases tri z (lo := 0) (hi := tn f - 1) (by omega) (by omega) with ⟨k, k0, kn, rfl⟩ | h
      · have hk : k < tn f := by omega
        refine ⟨X.I (2 + 5 * (n - 1) + f) k, pre _ ?_, ?_⟩
        · rw [bs (c_place hs f1 f4 hk)]
          dsimp only
          rw [if_neg (by decide), bs (ct_a hs f1 f4 hk)]
        · have en : n - 1 + 1 = n := by omega
          have xc := (hI.2.1.2.1 _ hs).2.2.2.2.2 f k f1 f4 hk
          have ym := (hI.2.1.2.2 _ hs).2.2.2.2.2 f k f1 f4 hk
          rw [en] at ym
          unfold fMo_cell
          rw [bs (m_place _ n1 n6 f1 f4 hk)]
          dsimp only
          have e16 : (16 : Int32) * nI n + nI k = nI (16 * n + k) := by rw [show (16 : Int32) * nI n = nI (16 * n) from pk_mul 16 n, nI_add]
          have e8 : (8 : Int32) * nI n + nI k = nI (8 * n + k) := by rw [show (8 : Int32) * nI n = nI (8 * n) from pk_mul 8 n, nI_add]
          rw [if_neg (by decide), xc]
          have h : f = 1 ∨ f = 2 ∨ f = 3 ∨ f = 4 := by omega
          rcases h with rfl | rfl | rfl | rfl
          · have hk : k < 16 := hk
            have ym : Y.I 62 (16 * n + k) = _ := ym
            rw [if_pos (by decide), bs mo_r6, Option.bind_some, e16, mo_a62, bs (ax_of (show 16 * n + k < 112 by omega) (by decide) rfl), ym]; rfl
          · have hk : k < 16 := hk
            have ym : Y.I 63 (16 * n + k) = _ := ym
            rw [if_neg (by decide), if_pos (by decide), bs mo_r7, Option.bind_some, e16, mo_a63, bs (ax_of (show 16 * n + k < 112 by omega) (by decide) rfl), ym]; rfl
          · have hk : k < 8 := hk
            have ym : Y.I 64 (8 * n + k) = _ := ym
            rw [if_neg (by decide), if_neg (by decide), if_pos (by decide), bs mo_r8, Option.bind_some, e8, mo_a64, bs (ax_of (show 8 * n + k < 56 by omega) (by decide) rfl), ym]; rfl
          · have hk : k < 8 := hk
            have ym : Y.I 65 (8 * n + k) = _ := ym
            rw [if_neg (by decide), if_neg (by decide), if_neg (by decide), bs mo_r9, Option.bind_some, e8, mo_a65, bs (ax_of (show 8 * n + k < 56 by omega) (by decide) rfl), ym]; rfl
      · refine ⟨-1, pre _ ?_, zero (m_place3 _ n1 n6 f1 f4 h)⟩
        rw [bs (c_placeN hs f1 f4 h)]
        dsimp only
        rw [if_pos rfl]
    · refine ⟨-1, ?_, zero (m_place2 _ n1 n6 h)⟩
      unfold fPl_cell
      rw [bs (s_in _ n1 n6)]
      dsimp only
      rw [if_neg (by decide)]
      by_cases e : y < 1
      · rw [if_pos e]
      · rw [if_neg e]
        rcases h with h | h
        · exact absurd h e
        · rw [if_neg (show ¬ y ≤ (4 : Int32) from Int32.not_le.mpr h)]
  · refine ⟨-1, ?_, zero (m_place1 _ h)⟩
    unfold fPl_cell
    rw [bs (s_out _ h)]
    dsimp only
    rw [if_pos rfl]
theorem SlM.put' {s al ln d off ls : Nat} {tb : Nat → Nat → Nat} (h : SlM X s al ln d off ls tb) {t k x : Nat} (h1 : 1 ≤ t) (h4 : t ≤ 4) (hk : k < tn t) : SlM (X.sI (61 + t) (tn t * (s + 1) + k) (nI x)) s al ln d off ls (tbR tb t k 1 (fun _ => x)) := by
  obtain ⟨e0, e1, e2, e3, e4, et⟩ := h
  refine ⟨?_, ?_, ?_, ?_, ?_, fun t' k' a1 a4 ak => ?_⟩
  all_goals try (rw [sI_I, up2_o (by omega)]; assumption)
  rw [sI_I]
  unfold tbR up2
  by_cases q : t' = t ∧ k ≤ k' ∧ k' < k + 1
  · obtain ⟨rfl, q2, q3⟩ := q
    have : k' = k := by omega
    subst this
    rw [if_pos (show t' = t' ∧ k' ≤ k' ∧ k' < k' + 1 from ⟨rfl, by omega⟩), if_pos (show 61 + t' = 61 + t' ∧ tn t' * (s + 1) + k' = tn t' * (s + 1) + k' from ⟨rfl, rfl⟩)]
  · rw [if_neg q, if_neg (fun z => ?_)]
    · exact et t' k' a1 a4 ak
    · obtain ⟨z1, z2⟩ := z
      have : t' = t := by omega
      subst this
      exact q ⟨rfl, by omega⟩
theorem SlM.oth {s s' al ln d off ls : Nat} {tb : Nat → Nat → Nat} (h : SlM X s' al ln d off ls tb) (hne : s' ≠ s) {t k x : Nat} (h1 : 1 ≤ t) (h4 : t ≤ 4) (hk : k < tn t) : SlM (X.sI (61 + t) (tn t * (s + 1) + k) (nI x)) s' al ln d off ls tb := by
  obtain ⟨e0, e1, e2, e3, e4, et⟩ := h
  refine ⟨?_, ?_, ?_, ?_, ?_, fun t' k' a1 a4 ak => ?_⟩
  all_goals try (rw [sI_I, up2_o (by omega)]; assumption)
  rw [sI_I]
  unfold up2
  rw [if_neg (fun z => ?_)]
  · exact et t' k' a1 a4 ak
  · obtain ⟨z1, z2⟩ := z
    have : t' = t := by omega
    subst this
    have h : t' = 1 ∨ t' = 2 ∨ t' = 3 ∨ t' = 4 := by omega
    rcases h with rfl | rfl | rfl | rfl
    · have hk : k < 16 := hk
      have ak : k' < 16 := ak
      have z2 : 16 * (s' + 1) + k' = 16 * (s + 1) + k := z2
      omega
    · have hk : k < 16 := hk
      have ak : k' < 16 := ak
      have z2 : 16 * (s' + 1) + k' = 16 * (s + 1) + k := z2
      omega
    · have hk : k < 8 := hk
      have ak : k' < 8 := ak
      have z2 : 8 * (s' + 1) + k' = 8 * (s + 1) + k := z2
      omega
    · have hk : k < 8 := hk
      have ak : k' < 8 := ak
      have z2 : 8 * (s' + 1) + k' = 8 * (s + 1) + k := z2
      omega
theorem Inv.slv {al' ln' d' off' ls' : Nat → Nat} {tb' : Nat → Nat → Nat → Nat} (hI : Inv b t nr np E al ln d off ls tb cur q X Y) (hX : Ch slR X X2) {qs : List Nat} (hY : Ch qs Y Y2) (hqs : ∀ p, p ∈ qs → 57 ≤ p ∧ p ≤ 65) (hS : SLA al' ln' d' off' ls' tb' X2 Y2) (hal : ∀ s, s < 6 → al s = 1 → al' s = 1 ∧ ln' s = ln s) : Inv b t nr np E al' ln' d' off' ls' tb' cur q X2 Y2 := by
  obtain ⟨hSC, hSL, hJB, hLN, hWA, hFR, hRH⟩ := hI
  have hm : ∀ p, p ∈ slR → 2 ≤ p ∧ p < 32 := fun p h => slR_mem.mp h
  have hJ := hJB.ch hX (fun p h => by have := hm p h; omega) hY (fun p h => by have := hqs p h; omega)
  refine ⟨hSC.ch hX (fun p h => by have := hm p h; omega) (K56.of hY (fun p h => by have := hqs p h; omega)), hS, ⟨hJ.1, hJ.2.1, hJ.2.2.1, hJ.2.2.2.1, fun i h1 h2 => ?_, hJ.2.2.2.2.2⟩, fun j' hj' => ?_, fun j' hj' => (hWA j' hj').ch hX (fun p h => by have := hm p h; omega) hY (fun p h => by have := hqs p h; omega), fun j' hj' => (hFR j' hj').ch hX (fun p h => by have := hm p h; omega) hY (fun p h => by have := hqs p h; omega), hRH.chs hX (fun p h => by have := hm p h; omega) hY (fun p h => by have := hqs p h; omega) (by rw [(hY.2.2 56 (fun h => by have := hqs _ h; omega)).1])⟩
  · have hq := (hJ.1 i (Or.inr ⟨h1, h2⟩)).2.2.2 h1
    exact (hal _ (by omega) (hJ.2.2.2.2.1 i h1 h2)).1
  · have h := (hLN j' hj').chs hX (fun p h => by have := hm p h; omega) hY (fun p h => by have := hqs p h; omega)
    refine ⟨h.1, h.2.1, h.2.2.1, h.2.2.2.1, fun i hi => ?_, h.2.2.2.2.2⟩
    have ho := h.2.2.2.2.1 i hi
    refine ⟨ho.1, fun hu => ?_⟩
    obtain ⟨m1, m2, m3, m4⟩ := ho.2 hu
    have := hal _ (by omega) m2
    exact ⟨m1, this.1, by rw [this.2]; exact m3, m4⟩
theorem set_tab (hI : Inv b t nr np E al ln d off ls tb cur q X Y) {s f k v : Nat} (hs : s < 6) (f1 : 1 ≤ f) (f4 : f ≤ 4) (hk : k < tn f) (hv : v < if f ≤ 2 then 2 else 65536) : Inv b t nr np E al ln d off ls (stF tb s (tbR (tb s) f k 1 (fun _ => v))) cur q (X.sI (2 + 5 * s + f) k (nI v)) (Y.sI (61 + f) (tn f * (s + 1) + k) (nI v)) := by
  have hS := hI.2.1
  refine hI.slv (qs := [61 + f]) (Ch.rf.sI (by rw [slR_mem]; omega)) (Ch.rf.sI (by simp)) (by intro p hp; simp only [List.mem_cons, List.not_mem_nil, or_false] at hp; omega) ⟨fun s' hs' => ?_, fun s' hs' => ?_, fun s' hs' => ?_⟩ (fun _ _ h => ⟨h, rfl⟩)
  · by_cases e : s' = s
    · subst e
      rw [stF_s]
      obtain ⟨v1, v2, v3, v4, v5, v6⟩ := hS.1 s' hs'
      refine ⟨v1, v2, v3, v4, v5, fun t' k' => ?_⟩
      have := v6 t' k'
      unfold tbR
      by_cases e2 : t' = f ∧ k ≤ k' ∧ k' < k + 1
      · rw [if_pos e2, e2.1]; exact hv
      · rw [if_neg e2]; exact this
    · rw [stF_o e]; exact hS.1 s' hs'
  · by_cases e : s' = s
    · subst e
      rw [stF_s]; exact (hS.2.1 s' hs').put f1 f4
    · rw [stF_o e]
      exact (hS.2.1 s' hs').ch (ps := [2 + 5 * s + f]) (Ch.rf.sI (by simp)) (by intro t ht; simp only [List.mem_cons, List.not_mem_nil, or_false]; omega)
  · by_cases e : s' = s
    · subst e
      rw [stF_s]; exact (hS.2.2 s' hs').put' f1 f4 hk
    · rw [stF_o e]
      exact (hS.2.2 s' hs').oth e f1 f4 hk
theorem process_step (hI : Inv b t nr np E al ln d off ls tb cur q X Y) (x y z v : Int32) : ∃ X' Y' r, fPl_process b x y z v (wX b X) = some (r, wX b X') ∧ fMo_process (b + 56) x y z v (wX b Y) = some (r, wX b Y') ∧ Rel b t X' Y' ∧ CK X X' ∧ MK Y Y' := by
  have zero : ∀ {x y z : Int32}, fMo_place x y z (wX b Y) = some (0, wX b Y) → fMo_process (b + 56) x y z v (wX b Y) = some (0, wX b Y) := by
    intro x y z h
    unfold fMo_process
    rw [bs h]
    dsimp only
    rw [if_pos rfl, bs bz_0]
  rcases tri x (lo := 1) (hi := 6) (by omega) (by omega) with ⟨n, n1, n6, rfl⟩ | h
  · have hs : n - 1 < 6 := by omega
    have en : n - 1 + 1 = n := by omega
    have em : nI n - (1 : Int32) = nI (n - 1) := pk_sub (b := 1) (by omega)
    obtain ⟨qs, gs⟩ := Sl_o (b := b) (X := X) (isSl_of hs)
    -- one of the two tables that a process may write
    have go : ∀ f most : Nat, (f = 2 ∧ most = 1 ∨ f = 4 ∧ most = 65535) → ∃ X' Y' r, fPl_process_J19_1 (wX b X) b (nI n) (nI f) z v = some (r, wX b X') ∧ fMo_process (b + 56) (nI n) (nI f) z v (wX b Y) = some (r, wX b Y') ∧ Rel b t X' Y' ∧ CK X X' ∧ MK Y Y' := by
      intro f most hf
      have f1 : 1 ≤ f := by omega
      have f4 : f ≤ 4 := by omega
      have ht := tn_b f
      have cm : (if nI f = (2 : Int32) then some (1 : Int32) else some (65535 : Int32)) = some (nI most) := by
        rcases hf with ⟨rfl, rfl⟩ | ⟨rfl, rfl⟩
        · rfl
        · rfl
      have preC : ∀ R, ((fPl_isPlace (b + (2 + 5 * (n - 1) + f)) z (wX b X)).bind fun (v16, S15) => if v16 = 0 then (bz (0 : Int32)).bind fun z17 => some ((0 : Int32), S15) else (fPl_isWithin v (nI most) S15).bind fun (v19, S18) => if v19 = 0 then (bz (0 : Int32)).bind fun z22 => some ((0 : Int32), S18) else (sI S18 (b + (2 + 5 * (n - 1) + f)) 0 z v).bind fun S20 => (bz (1 : Int32)).bind fun z21 => some ((1 : Int32), S20)) = R → fPl_process_J19_1 (wX b X) b (nI n) (nI f) z v = R := by
        intro R hR
        unfold fPl_process_J19_1
        rw [bs pl_r0, Option.bind_some, em, sa_r, bs (ax_of hs (by decide) rfl), if_pos hs, Option.bind_some, Option.bind_some, bs gs, bs (c_tableOf hs f1 f4)]
        dsimp only
        rw [bs cm, Option.bind_some]
        exact hR
      rcases tri z (lo := 0) (hi := tn f - 1) (by omega) (by omega) with ⟨k, k0, kn, rfl⟩ | h
      · have hk : k < tn f := by omega
        have preM : ∀ R, fMo_process_J19_1 (nI f) v (wX b Y) (b + 56) (nI n) (nI k) = R → fMo_process (b + 56) (nI n) (nI f) (nI k) v (wX b Y) = R := by
          intro R hR
          unfold fMo_process
          rw [bs (m_place _ n1 n6 f1 f4 hk)]
          dsimp only
          rw [if_neg (by decide)]
          rcases hf with ⟨rfl, rfl⟩ | ⟨rfl, rfl⟩
          · rw [if_pos (by decide)]; exact hR
          · rw [if_neg (by decide), if_pos (by decide)]; exact hR
        rcases tri v (lo := 0) (hi := most) (by omega) (by omega) with ⟨w, w0, wm, rfl⟩ | h
        · have hin := set_tab hI hs f1 f4 hk (v := w) (by rcases hf with ⟨rfl, rfl⟩ | ⟨rfl, rfl⟩ <;> simp <;> omega)
          rw [en] at hin
          refine ⟨_, _, 1, preC _ ?_, preM _ ?_, hin.rel, CK.of (ps := [2 + 5 * (n - 1) + f]) (Ch.rf.sI (by simp)) (by intro p hp; simp only [List.mem_cons, List.not_mem_nil, or_false] at hp; omega), MK.of (ps := [61 + f]) (Ch.rf.sI (by simp)) (by intro p hp; simp only [List.mem_cons, List.not_mem_nil, or_false] at hp; omega)⟩
          · rw [bs (c_place hs f1 f4 hk)]
            dsimp only
            rw [if_neg (by decide), bs (p_in _ wm (by omega))]
            dsimp only
            rw [if_neg (by decide), bs (ct_s hs f1 f4 hk), bs bz_1]
          · have w3 : fMo_within (nI w) (0 : Int32) (nI most) (wX b Y) = some (1, wX b Y) := w_in (lo := 0) _ (by omega) wm (by omega)
            unfold fMo_process_J19_1
            rw [bs cm, bs w3]
            dsimp only
            rw [if_neg (by decide)]
            rcases hf with ⟨rfl, rfl⟩ | ⟨rfl, rfl⟩
            · have hk : k < 16 := hk
              have e16 : (16 : Int32) * nI n + nI k = nI (16 * n + k) := by rw [show (16 : Int32) * nI n = nI (16 * n) from pk_mul 16 n, nI_add]
              rw [if_pos (by decide), bs mo_r7, Option.bind_some, e16, mo_s63, ax_of (show 16 * n + k < 112 by omega) (by decide) rfl, Option.bind_some, Option.bind_some, bs bz_1]; rfl
            · have hk : k < 8 := hk
              have e8 : (8 : Int32) * nI n + nI k = nI (8 * n + k) := by rw [show (8 : Int32) * nI n = nI (8 * n) from pk_mul 8 n, nI_add]
              rw [if_neg (by decide), bs mo_r9, Option.bind_some, e8, mo_s65, ax_of (show 8 * n + k < 56 by omega) (by decide) rfl, Option.bind_some, Option.bind_some, bs bz_1]; rfl
        · refine ⟨X, Y, 0, preC _ ?_, preM _ ?_, hI.rel, CK.rf, MK.rf⟩
          · rw [bs (c_place hs f1 f4 hk)]
            dsimp only
            rw [if_neg (by decide), bs (p_out _ h)]
            dsimp only
            rw [if_pos rfl, bs bz_0]
          · have wo : fMo_within v (0 : Int32) (nI most) (wX b Y) = some (0, wX b Y) := w_out _ h
            unfold fMo_process_J19_1
            rw [bs cm, bs wo]
            dsimp only
            rw [if_pos rfl, bs bz_0]
      · refine ⟨X, Y, 0, preC _ ?_, zero (m_place3 _ n1 n6 f1 f4 h), hI.rel, CK.rf, MK.rf⟩
        rw [bs (c_placeN hs f1 f4 h)]
        dsimp only
        rw [if_pos rfl, bs bz_0]
    by_cases e2 : y = 2
    · obtain ⟨X', Y', r, g1, g2, g3⟩ := go 2 1 (Or.inl ⟨rfl, rfl⟩)
      subst e2
      refine ⟨X', Y', r, ?_, g2, g3⟩
      unfold fPl_process
      rw [bs (s_in _ n1 n6)]
      dsimp only
      rw [if_neg (by decide), if_pos rfl]
      exact g1
    · by_cases e4 : y = 4
      · obtain ⟨X', Y', r, g1, g2, g3⟩ := go 4 65535 (Or.inr ⟨rfl, rfl⟩)
        subst e4
        refine ⟨X', Y', r, ?_, g2, g3⟩
        unfold fPl_process
        rw [bs (s_in _ n1 n6)]
        dsimp only
        rw [if_neg (by decide), if_neg (by decide), if_pos rfl]
        exact g1
      · refine ⟨X, Y, 0, ?_, ?_, hI.rel, CK.rf, MK.rf⟩
        · unfold fPl_process
          rw [bs (s_in _ n1 n6)]
          dsimp only
          rw [if_neg (by decide), if_neg e2, if_neg e4, bs bz_0]
        · have hp : ∃ r, fMo_place (nI n) y z (wX b Y) = some (r, wX b Y) := by
            rcases tri y (lo := 1) (hi := 4) (by omega) (by omega) with ⟨f, f1, f4, rfl⟩ | h
            · have ht := tn_b f
              rcases tri z (lo := 0) (hi := tn f - 1) (by omega) (by omega) with ⟨k, k0, kn, rfl⟩ | h
              · exact ⟨1, m_place _ n1 n6 f1 f4 (by omega)⟩
              · exact ⟨0, m_place3 _ n1 n6 f1 f4 h⟩
            · exact ⟨0, m_place2 _ n1 n6 h⟩
          obtain ⟨r, hp⟩ := hp
          unfold fMo_process
          rw [bs hp]
          dsimp only
          by_cases e : r = 0
          · rw [if_pos e, bs bz_0]
          · rw [if_neg e, if_neg e2, if_neg e4, bs bz_0]
  · refine ⟨X, Y, 0, ?_, zero (m_place1 _ h), hI.rel, CK.rf, MK.rf⟩
    unfold fPl_process
    rw [bs (s_out _ h)]
    dsimp only
    rw [if_pos rfl, bs bz_0]
end CE
