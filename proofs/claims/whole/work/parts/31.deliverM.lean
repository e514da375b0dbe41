/-! The model's side of a delivery. -/
section DM
variable {b : Nat} {X : Xs} {j u f a c v : Nat} {al ln d off ls : Nat → Nat} {tb : Nat → Nat → Nat → Nat}
def SaidQ (Y : Xs) (u f a c v : Nat) (tb : Nat → Nat → Nat → Nat) : Prop := Y.I 56 39 = nI (refN f a c v) ∧ (refN f a c v = 0 → Y.J 56 40 = lN (svN f a c v (tb (u - 1)))) ∧ (refN f a c v ≠ 0 → Y.J 56 40 = lN 0)
theorem m_deliver (hj : j < 2) (hV : ∀ i, i < 6 → SlV (al i) (ln i) (d i) (off i) (ls i) (tb i)) (hS : ∀ i, i < 6 → SlM X i (al i) (ln i) (d i) (off i) (ls i) (tb i)) (hu : u < 248) (hf1 : 1 ≤ f) (hf : f < 128) (ha : a < 65536) (hc : c ≤ 16) (hv : v < 2 ^ 64) : ∃ Y r, lp (fMo_carry_L36 (b + 56) (nI j) (nI u) (nI f) (nI a) (nI c) (lN v)) 1000 ((0 : Int32), (1 : Int32), wX b X) = some (r, wX b Y) ∧ (∀ i, i < 6 → SlM Y i (al i) (ln i) (d i) (off i) (lsP j u f a c v al ln off ls i) (tbP j u f a c v al ln off ls tb i)) ∧ Ch [56, 61, 62, 64] X Y ∧ (∀ q, q ≠ 39 → Y.I 56 q = X.I 56 q) ∧ ((ansQ j u f a c v al ln off ls ∧ r = 1 ∧ SaidQ Y u f a c v tb) ∨ (¬ ansQ j u f a c v al ln off ls ∧ r = 0)) := by
  have key := lp_inv (step := fMo_carry_L36 (b + 56) (nI j) (nI u) (nI f) (nI a) (nI c) (lN v)) (Q := fun q => ∃ Y, q.2 = wX b Y ∧ (∀ i, i < 6 → SlM Y i (al i) (ln i) (d i) (off i) (lsP j u f a c v al ln off ls i) (tbP j u f a c v al ln off ls tb i)) ∧ Ch [56, 61, 62, 64] X Y ∧ (∀ q, q ≠ 39 → Y.I 56 q = X.I 56 q) ∧ ((ansQ j u f a c v al ln off ls ∧ q.1 = 1 ∧ SaidQ Y u f a c v tb) ∨ (¬ ansQ j u f a c v al ln off ls ∧ q.1 = 0))) (fun k q => ∃ Y, q.2 = (nI (k + 1), wX b Y) ∧ (∀ i, i < 6 → SlM Y i (al i) (ln i) (d i) (off i) (upto k ls (lsP j u f a c v al ln off ls) i) (uptoT k tb (tbP j u f a c v al ln off ls tb) i)) ∧ Ch [56, 61, 62, 64] X Y ∧ (∀ q, q ≠ 39 → Y.I 56 q = X.I 56 q) ∧ ((ansQ j u f a c v al ln off ls ∧ u ≤ k ∧ q.1 = 1 ∧ SaidQ Y u f a c v tb) ∨ (¬ (ansQ j u f a c v al ln off ls ∧ u ≤ k) ∧ q.1 = 0))) 6 ?_ ?_ 1000 ((0 : Int32), (1 : Int32), wX b X) (by omega) ⟨X, rfl, fun i hi => hS i hi, Ch.rf, fun _ _ => rfl, Or.inr ⟨fun q => by have := q.1.1; omega, rfl⟩⟩
  · obtain ⟨⟨r, W⟩, k1, Y, hW, k2⟩ := key
    have hW : W = wX b Y := hW
    subst hW
    exact ⟨Y, r, k1, k2⟩
  · rintro k ⟨r1, q⟩ hk ⟨Y, hq, i1, i2, i4, i3⟩
    have hq : q = (nI (k + 1), wX b Y) := hq
    subst hq
    have hSk := i1 k hk
    rw [upto_ge (Nat.lt_irrefl _), uptoT_ge (Nat.lt_irrefl _)] at hSk
    have hVk := hV k hk
    have a57 : aI (wX b Y) (b + 57) 1 (nI (k + 1)) = some (nI (al k)) := by rw [mo_a57, bs (ax_of (show k + 1 < 7 by omega) (by decide) rfl), hSk.1]
    have a58 : aI (wX b Y) (b + 58) 0 (nI (k + 1)) = some (nI (ln k)) := by rw [mo_a58, bs (ax_of (show k + 1 < 7 by omega) (by decide) rfl), hSk.2.1]
    have pre : ∀ r, (if nI (al k) = 0 then some (.inl (r1, nI (k + 1) + 1, wX b Y)) else if nI (ln k) = nI j then if nI u = 0 then fMo_carry_J74_1 (nI u) (wX b Y) (b + 56) (nI f) (nI a) (nI c) (lN v) r1 (nI (k + 1)) else if nI u = nI (k + 1) then fMo_carry_J74_1 (nI u) (wX b Y) (b + 56) (nI f) (nI a) (nI c) (lN v) r1 (nI (k + 1)) else some (.inl (r1, nI (k + 1) + 1, wX b Y)) else some (.inl (r1, nI (k + 1) + 1, wX b Y))) = some r → fMo_carry_L36 (b + 56) (nI j) (nI u) (nI f) (nI a) (nI c) (lN v) (r1, nI (k + 1), wX b Y) = some r := by
      intro r hr
      unfold fMo_carry_L36
      dsimp only
      rw [if_neg (show ¬ (6 : Int32) < nI (k + 1) by rw [g_6 (by omega)]; omega), bs mo_r1, Option.bind_some, bs a57]
      rw [bs mo_r2, Option.bind_some, bs a58]
      exact hr
    have hal : (nI (al k) = 0) = (al k = 0) := q_0 (by have := hVk.1; omega)
    have hln : (nI (ln k) = nI j) = (ln k = j) := propext (nI_eq (by have := hVk.2.1; omega) (by omega))
    have hu0 : (nI u = 0) = (u = 0) := q_0 (by omega)
    have huk : (nI u = nI (k + 1)) = (u = k + 1) := propext (nI_eq (by omega) (by omega))
    have still : ¬ doesQ j u f a c v k al ln off ls → ∀ i, i < 6 → SlM Y i (al i) (ln i) (d i) (off i) (upto (k + 1) ls (lsP j u f a c v al ln off ls) i) (uptoT (k + 1) tb (tbP j u f a c v al ln off ls tb) i) := by
      intro hd i hi
      have := i1 i hi
      by_cases e : i = k
      · subst e
        rw [upto_lt (Nat.lt_succ_self _), uptoT_lt (Nat.lt_succ_self _), lsP_neg hd, tbP_neg hd]
        exact hSk
      · by_cases e2 : i < k
        · rw [upto_lt (by omega), uptoT_lt (by omega)]
          rw [upto_lt e2, uptoT_lt e2] at this
          exact this
        · rw [upto_ge (by omega), uptoT_ge (by omega)]
          rw [upto_ge e2, uptoT_ge e2] at this
          exact this
    by_cases c1 : al k = 1 ∧ ln k = j
    · by_cases c2 : u = 0 ∨ u = k + 1
      · obtain ⟨Y2, r2, o1, o2, o3, o4, o5⟩ := m_gets (b := b) (u := u) hk hVk hSk hf1 hf ha hc hv (all := if u = 0 then 1 else 0) rfl
        have hrun : ∀ r3, (if r2 = 0 then if r1 = 0 then some (0 : Int32) else some (1 : Int32) else some (1 : Int32)) = some r3 → fMo_carry_L36 (b + 56) (nI j) (nI u) (nI f) (nI a) (nI c) (lN v) (r1, nI (k + 1), wX b Y) = some (.inl (r3, nI (k + 1) + 1, wX b Y2)) := by
          intro r3 hr3
          refine pre _ ?_
          have hJ : fMo_carry_J74_1 (nI u) (wX b Y) (b + 56) (nI f) (nI a) (nI c) (lN v) r1 (nI (k + 1)) = some (.inl (r3, nI (k + 1) + 1, wX b Y2)) := by
            unfold fMo_carry_J74_1
            have e : (if nI u = 0 then some (1 : Int32) else some (0 : Int32)) = some (if u = 0 then 1 else 0) := by
              by_cases e0 : u = 0
              · rw [if_pos (by rw [hu0]; exact e0), if_pos e0]
              · rw [if_neg (by rw [hu0]; exact e0), if_neg e0]
            rw [bs e, bs mo_o, bs o1]
            dsimp only
            rw [bs hr3]
          rw [if_neg (by rw [hal]; omega), if_pos (by rw [hln]; exact c1.2)]
          rcases c2 with e | e
          · rw [if_pos (by rw [hu0]; exact e), hJ]
          · rw [if_neg (by rw [hu0]; omega), if_pos (by rw [huk]; exact e), hJ]
        have hrec : ∀ i, i < 6 → SlM Y2 i (al i) (ln i) (d i) (off i) (upto (k + 1) ls (lsP j u f a c v al ln off ls) i) (uptoT (k + 1) tb (tbP j u f a c v al ln off ls tb) i) := by
          intro i hi
          by_cases e : i = k
          · subst e
            rw [upto_lt (Nat.lt_succ_self _), uptoT_lt (Nat.lt_succ_self _)]
            have e1 : doesQ j u f a c v i al ln off ls ↔ (hears f (off i) (ls i) ∧ refN f a c v = 0) := ⟨fun q => q.2, fun q => ⟨⟨c1.1, c1.2, c2⟩, q⟩⟩
            by_cases e2 : hears f (off i) (ls i) ∧ refN f a c v = 0
            · rw [lsP_pos (e1.mpr e2), tbP_pos (e1.mpr e2)]
              rw [if_pos e2, if_pos e2] at o4
              exact o4
            · rw [lsP_neg (fun q => e2 (e1.mp q)), tbP_neg (fun q => e2 (e1.mp q))]
              rw [if_neg e2, if_neg e2] at o4
              exact o4
          · have := o3.2.1 i _ _ _ _ _ _ e hi (i1 i hi)
            by_cases e2 : i < k
            · rw [upto_lt (by omega), uptoT_lt (by omega)]
              rw [upto_lt e2, uptoT_lt e2] at this
              exact this
            · rw [upto_ge (by omega), uptoT_ge (by omega)]
              rw [upto_ge e2, uptoT_ge e2] at this
              exact this
        have hch := i2.tr o3.1
        have hq39 : ∀ q, q ≠ 39 → Y2.I 56 q = X.I 56 q := fun q hq => (o3.2.2 q hq).trans (i4 q hq)
        rcases o2 with ⟨oa, rfl⟩ | ⟨oa, rfl⟩
        · have hu : u = k + 1 := by have := oa.2.1; omega
          subst hu
          refine ⟨_, hrun 1 (by rw [if_neg (by decide)]), Y2, by rw [nI_1], hrec, hch, hq39, Or.inl ⟨⟨by omega, by omega, c1.1, c1.2, oa⟩, Nat.le_refl _, rfl, o5 oa.1⟩⟩
        · rcases i3 with ⟨a1, a2, a3, a4⟩ | ⟨a1, a3⟩
          · exfalso
            have := a1.1
            omega
          · have a3 : r1 = 0 := a3
            refine ⟨_, hrun 0 (by rw [if_pos rfl, if_pos a3]), Y2, by rw [nI_1], hrec, hch, hq39, ?_⟩
            refine Or.inr ⟨fun q => ?_, rfl⟩
            by_cases e : u ≤ k
            · exact a1 ⟨q.1, e⟩
            · have hu : u = k + 1 := by have := q.2; omega
              subst hu
              exact oa q.1.2.2.2.2
      · refine ⟨_, pre (.inl (r1, nI (k + 1) + 1, wX b Y)) ?_, Y, by rw [nI_1], still (fun q => c2 q.1.2.2), i2, i4, ?_⟩
        · rw [if_neg (by rw [hal]; omega), if_pos (by rw [hln]; exact c1.2), if_neg (by rw [hu0]; omega), if_neg (by rw [huk]; omega)]
        · rcases i3 with ⟨a1, a2, a3⟩ | ⟨a1, a3⟩
          · exact Or.inl ⟨a1, by omega, a3⟩
          · exact Or.inr ⟨fun q => a1 ⟨q.1, by have := q.1.1; have := q.2; omega⟩, a3⟩
    · refine ⟨_, pre (.inl (r1, nI (k + 1) + 1, wX b Y)) ?_, Y, by rw [nI_1], still (fun q => c1 ⟨q.1.1, q.1.2.1⟩), i2, i4, ?_⟩
      · have hal2 := hVk.1
        by_cases e : al k = 0
        · rw [if_pos (by rw [hal]; exact e)]
        · rw [if_neg (by rw [hal]; exact e), if_neg (by rw [hln]; intro q; exact c1 ⟨by omega, q⟩)]
      · rcases i3 with ⟨a1, a2, a3⟩ | ⟨a1, a3⟩
        · exact Or.inl ⟨a1, by omega, a3⟩
        · refine Or.inr ⟨fun q => ?_, a3⟩
          by_cases e : u ≤ k
          · exact a1 ⟨q.1, e⟩
          · have hu : u = k + 1 := by have := q.2; omega
            subst hu
            exact c1 ⟨q.1.2.2.1, q.1.2.2.2.1⟩
  · rintro ⟨r1, q⟩ ⟨Y, hq, i1, i2, i4, i3⟩
    have hq : q = (nI 7, wX b Y) := hq
    subst hq
    refine ⟨(r1, wX b Y), ?_, Y, rfl, fun i hi => ?_, i2, i4, ?_⟩
    · unfold fMo_carry_L36
      dsimp only
      rw [if_pos (by decide)]
    · have := i1 i hi
      rw [upto_lt hi, uptoT_lt hi] at this
      exact this
    · rcases i3 with ⟨a1, a2, a3⟩ | ⟨a1, a3⟩
      · exact Or.inl ⟨a1, a3⟩
      · exact Or.inr ⟨fun q => a1 ⟨q, q.2.1⟩, a3⟩
end DM
