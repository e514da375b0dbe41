/-! One world by addresses: all that is made since the start (from address b on). S.1: the heap's size, S.2: what lies at an address. An array names its kind by its place in tys, an object its kind by its place in cl. -/
abbrev Cel : Type := (Nat × Nat × ((Nat → Int32) ⊕ (Nat → Int64) ⊕ (Nat → Option Nat))) ⊕ (Nat × List Value)
abbrev Ws : Type := Nat × (Nat → Option Cel)
def hq_tc (tys : List (ClassId × FieldType)) (t : Nat) : ClassId := match tys[t]? with
  | some q => q.1
  | none => 0
def hq_E (tys : List (ClassId × FieldType)) (x : Cel) : va_E := match x with
  | .inl (t, n, .inl f) => .inl (hq_tc tys t, n, .inl f)
  | .inl (t, n, .inr (.inl f)) => .inl (hq_tc tys t, n, .inr (.inl f))
  | .inl (t, n, .inr (.inr f)) => .inl (hq_tc tys t, n, .inr (.inr (.inr (.inr f))))
  | .inr q => .inr q
theorem hq_tc_of {tys : List (ClassId × FieldType)} {t : Nat} {ty : FieldType} (h : (tys.map Prod.snd)[t]? = some ty) : tys[t]? = some (hq_tc tys t, ty) := by
  rw [List.getElem?_map] at h
  unfold hq_tc
  cases hq : tys[t]? with
  | none => rw [hq] at h; cases h
  | some q =>
    rw [hq] at h
    obtain ⟨q1, q2⟩ := q
    have h2 : q2 = ty := Option.some.inj h
    subst h2
    rfl
def hq_ws (tys : List (ClassId × FieldType)) (b : Nat) (S : Ws) : va_W := (List.range (S.1 - b)).map (fun n => (b + n, hq_E tys ((S.2 (b + n)).getD (.inr (0, [])))))
/-- the world's bounds -/
def hq_dom (b : Nat) (S : Ws) : Prop := b ≤ S.1 ∧ (∀ a x, S.2 a = some x → b ≤ a ∧ a < S.1) ∧ ∀ a, b ≤ a → a < S.1 → ∃ x, S.2 a = some x
theorem hq_ix {tys : List (ClassId × FieldType)} {b : Nat} {S : Ws} {a : Nat} {x : Cel} (hd : hq_dom b S) (h : S.2 a = some x) : (hq_ws tys b S)[a - b]? = some (a, hq_E tys x) := by
  obtain ⟨h1, h2⟩ := hd.2.1 a x h
  have e : b + (a - b) = a := by omega
  have hlt : a - b < S.1 - b := by omega
  simp [hq_ws, hlt, e, h]
theorem hq_of {tys : List (ClassId × FieldType)} {b : Nat} {S : Ws} {k : Nat} {q : Nat × va_E} (hd : hq_dom b S) (h : (hq_ws tys b S)[k]? = some q) : ∃ x, S.2 (b + k) = some x ∧ b + k < S.1 ∧ q = (b + k, hq_E tys x) := by
  have hk : k < S.1 - b := by
    have h1 := (List.getElem?_eq_some_iff.mp h).1
    simpa [hq_ws] using h1
  obtain ⟨x, hx⟩ := hd.2.2 (b + k) (by omega) (by omega)
  refine ⟨x, hx, by omega, ?_⟩
  have h2 := hq_ix (tys := tys) hd hx
  rw [show b + k - b = k by omega, h] at h2
  exact Option.some.inj h2
theorem hq_D {tys : List (ClassId × FieldType)} {b : Nat} {S : Ws} (hd : hq_dom b S) : va_D (fun q => b ≤ q) (hq_ws tys b S) := by
  refine ⟨fun i j x y hi hj hxy => ?_, fun k q hk => ?_⟩
  · obtain ⟨_, -, -, rfl⟩ := hq_of hd hi
    obtain ⟨_, -, -, rfl⟩ := hq_of hd hj
    have h1 : b + i = b + j := hxy
    omega
  · obtain ⟨_, -, -, rfl⟩ := hq_of hd hk
    show b ≤ b + k
    omega
/-- a cell written anew -/
def Ws.up (S : Ws) (a : Nat) (x : Cel) : Ws := (S.1, va_up S.2 a (some x))
/-- a new cell -/
def Ws.add (S : Ws) (x : Cel) : Ws := (S.1 + 1, va_up S.2 S.1 (some x))
theorem hq_domup {b : Nat} {S : Ws} {a : Nat} {x y : Cel} (hd : hq_dom b S) (h : S.2 a = some x) : hq_dom b (S.up a y) := by
  have hb := hd.2.1 a x h
  refine ⟨hd.1, fun a' x' h' => ?_, fun a' h1 h2 => ?_⟩
  · by_cases he : a' = a
    · subst he; exact hb
    · have h3 : va_up S.2 a (some y) a' = some x' := h'
      rw [va_up_ne _ _ he] at h3
      exact hd.2.1 a' x' h3
  · show ∃ x, va_up S.2 a (some y) a' = some x
    by_cases he : a' = a
    · subst he; exact ⟨y, va_up_self _ _ _⟩
    · rw [va_up_ne _ _ he]; exact hd.2.2 a' h1 h2
theorem hq_domadd {b : Nat} {S : Ws} {y : Cel} (hd : hq_dom b S) : hq_dom b (S.add y) := by
  have h0 := hd.1
  refine ⟨by show b ≤ S.1 + 1; omega, fun a' x' h' => ?_, fun a' h1 h2 => ?_⟩
  · have h3 : va_up S.2 S.1 (some y) a' = some x' := h'
    show b ≤ a' ∧ a' < S.1 + 1
    by_cases he : a' = S.1
    · omega
    · rw [va_up_ne _ _ he] at h3
      have := hd.2.1 a' x' h3
      omega
  · show ∃ x, va_up S.2 S.1 (some y) a' = some x
    have h2 : a' < S.1 + 1 := h2
    by_cases he : a' = S.1
    · subst he; exact ⟨y, va_up_self _ _ _⟩
    · rw [va_up_ne _ _ he]; exact hd.2.2 a' h1 (by omega)
theorem hq_set {tys : List (ClassId × FieldType)} {b : Nat} {S : Ws} {a : Nat} {x y : Cel} (hd : hq_dom b S) (h : S.2 a = some x) : (hq_ws tys b S).set (a - b) (a, hq_E tys y) = hq_ws tys b (S.up a y) := by
  have hb := hd.2.1 a x h
  have hl : a - b < (hq_ws tys b S).length := by simp [hq_ws]; omega
  have hd2 := hq_domup (y := y) hd h
  apply List.ext_getElem?
  intro j
  by_cases hj : j = a - b
  · subst hj
    rw [List.getElem?_set_self hl]
    exact (hq_ix (S := S.up a y) hd2 (va_up_self _ _ _)).symm
  · rw [List.getElem?_set_ne (Ne.symm hj)]
    by_cases hs : j < S.1 - b
    · obtain ⟨z, hz⟩ := hd.2.2 (b + j) (by omega) (by omega)
      have e1 := hq_ix (tys := tys) hd hz
      have hz2 : (S.up a y).2 (b + j) = some z := by
        show va_up S.2 a (some y) (b + j) = some z
        rw [va_up_ne _ _ (by omega)]
        exact hz
      have e2 := hq_ix (tys := tys) hd2 hz2
      rw [show b + j - b = j by omega] at e1 e2
      rw [e1, e2]
    · rw [List.getElem?_eq_none (by simp [hq_ws]; omega), List.getElem?_eq_none (by simp [hq_ws, Ws.up]; omega)]
/-- words of the tables that no method's list may hold -/
def NW (U : State) : Prop := (va_Nw (.methodLinkNest "SerialPlant$Line" 11 ⟨"SerialPlant$Way", "<init>", "()V"⟩ "SerialPlant") U ∧ va_Nw (.methodLinkNest "SerialPlant$Way" 9 ⟨"SerialPlant$Frame", "<init>", "()V"⟩ "SerialPlant") U ∧ va_Nw (.methodLinkNest "SerialPlant" 39 ⟨"SerialPlant$History", "<init>", "()V"⟩ "SerialPlant") U) ∧ (va_Nw (.declares ⟨"SerialPlant$Job", "take", "(LSerialPlant$Frame;I)V"⟩) U ∧ va_Nw (.declares ⟨"SerialPlant$Job", "goUnanswered", "()V"⟩) U) ∧ (va_Nw (.castable "SerialPlant$Poll" "SerialPlant$Job") U ∧ va_Nw (.castable "SerialPlant$Request" "SerialPlant$Job") U) ∧ va_AO "SerialPlant$Slave" U ∧ va_AO "SerialPlant$Line" U ∧ va_AO "SerialPlant$Job" U ∧ va_AO "SerialPlant$Request" U ∧ va_AO "SerialPlant$Poll" U
theorem NW.warm {s U : State} (hW : s.WarmedH U.vm) (h : NW s) : NW U := by
  obtain ⟨⟨a1, a2, a3⟩, ⟨b1, b2⟩, ⟨c1, c2⟩, d1, d2, d3, d4, d5⟩ := h
  exact ⟨⟨a1.warmM hW, a2.warmM hW, a3.warmM hW⟩, ⟨b1.warmD hW, b2.warmD hW⟩, ⟨c1.warmC hW, c2.warmC hW⟩, d1.moved hW.alike, d2.moved hW.alike, d3.moved hW.alike, d4.moved hW.alike, d5.moved hW.alike⟩
theorem NW.same {s U : State} (hv : s.vm = U.vm) (h : NW s) : NW U := by
  have ha : s.vm.Alike U.vm := hv ▸ Vm.Alike.refl s.vm
  obtain ⟨⟨a1, a2, a3⟩, ⟨b1, b2⟩, ⟨c1, c2⟩, d1, d2, d3, d4, d5⟩ := h
  exact ⟨⟨a1.same rfl hv, a2.same rfl hv, a3.same rfl hv⟩, ⟨b1.same rfl hv, b2.same rfl hv⟩, ⟨c1.same rfl hv, c2.same rfl hv⟩, d1.moved ha, d2.moved ha, d3.moved ha, d4.moved ha, d5.moved ha⟩
/-- the world of a state (a contract's start and end), and of a walk that began at s -/
def Wp (D : va_G) (cl : List vw_C) (tys : List (ClassId × FieldType)) (b : Nat) (S : Ws) (U : State) : Prop :=
  U.heap.size = S.1 ∧ hq_dom b S ∧ va_P D cl (hq_ws tys b S) U.heap ∧ va_K D cl tys U ∧ NW U
def Wd (D : va_G) (cl : List vw_C) (tys : List (ClassId × FieldType)) (b : Nat) (S : Ws) (s : State) (H : Heap) (locs : List Loc) : Prop :=
  (H.size = S.1 ∧ hq_dom b S ∧ b ≤ s.heap.size ∧ NW s) ∧ va_P D cl (hq_ws tys b S) H ∧ va_K D cl tys s ∧ va_S (fun q => b ≤ q) s.heap H locs
/-! the steps of the story -/
def gO (S : Ws) (a : Nat) (cs : List Nat) : Option (Nat × List Value) := match S.2 a with
  | some (.inr (ci, fs)) => if ci ∈ cs then some (ci, fs) else none
  | _ => none
theorem gO_some {S : Ws} {a : Nat} {cs : List Nat} {q : Nat × List Value} (h : gO S a cs = some q) : S.2 a = some (.inr q) ∧ q.1 ∈ cs := by
  unfold gO at h
  split at h
  · next ci fs e =>
    split at h
    · next hi =>
      cases h
      exact ⟨e, hi⟩
    · cases h
  · cases h
def gV (S : Ws) (a : Nat) (cs : List Nat) (k : Nat) : Option Value := (gO S a cs).bind fun q => q.2[k]?
def vI (v : Value) : Option Int32 := match v with
  | .int x => some x
  | _ => none
def vL (v : Value) : Option Int64 := match v with
  | .long x => some x
  | _ => none
def vR (v : Value) : Option (Option Nat) := match v with
  | .null => some none
  | .ref a => some (some a)
  | _ => none
theorem vI_some {v : Value} {x : Int32} (h : vI v = some x) : v = .int x := by
  unfold vI at h
  split at h
  · cases h; rfl
  · cases h
theorem vL_some {v : Value} {x : Int64} (h : vL v = some x) : v = .long x := by
  unfold vL at h
  split at h
  · cases h; rfl
  · cases h
theorem vR_some {v : Value} {x : Option Nat} (h : vR v = some x) : v = va_rf x := by
  unfold vR at h
  split at h
  · cases h; rfl
  · cases h; rfl
  · cases h
def gI (S : Ws) (a : Nat) (cs : List Nat) (k : Nat) : Option Int32 := (gV S a cs k).bind vI
def gL (S : Ws) (a : Nat) (cs : List Nat) (k : Nat) : Option Int64 := (gV S a cs k).bind vL
def gR (S : Ws) (a : Nat) (cs : List Nat) (k : Nat) : Option (Option Nat) := (gV S a cs k).bind vR
theorem gI_V {S : Ws} {a : Nat} {cs : List Nat} {k : Nat} {x : Int32} (h : gI S a cs k = some x) : gV S a cs k = some (.int x) := by
  obtain ⟨v, h1, h2⟩ := Option.bind_eq_some_iff.mp h
  rw [h1, vI_some h2]
theorem gL_V {S : Ws} {a : Nat} {cs : List Nat} {k : Nat} {x : Int64} (h : gL S a cs k = some x) : gV S a cs k = some (.long x) := by
  obtain ⟨v, h1, h2⟩ := Option.bind_eq_some_iff.mp h
  rw [h1, vL_some h2]
theorem gR_V {S : Ws} {a : Nat} {cs : List Nat} {k : Nat} {x : Option Nat} (h : gR S a cs k = some x) : gV S a cs k = some (va_rf x) := by
  obtain ⟨v, h1, h2⟩ := Option.bind_eq_some_iff.mp h
  rw [h1, vR_some h2]
def pV (S : Ws) (a : Nat) (cs : List Nat) (k : Nat) (v : Value) : Option Ws := (gO S a cs).bind fun q => if k < q.2.length then some (S.up a (.inr (q.1, q.2.set k v))) else none
theorem pV_some {S S' : Ws} {a : Nat} {cs : List Nat} {k : Nat} {v : Value} (h : pV S a cs k v = some S') : ∃ ci fs, S.2 a = some (.inr (ci, fs)) ∧ ci ∈ cs ∧ k < fs.length ∧ S' = S.up a (.inr (ci, fs.set k v)) := by
  obtain ⟨q, h1, h2⟩ := Option.bind_eq_some_iff.mp h
  obtain ⟨h3, h4⟩ := gO_some h1
  split at h2
  · next hk => exact ⟨q.1, q.2, h3, h4, hk, (Option.some.inj h2).symm⟩
  · cases h2
/-- a number that is a truth value -/
def bz (x : Int32) : Option Int32 := if x = 0 ∨ x = 1 then some x else none
theorem bz_some {x y : Int32} (h : bz x = some y) : y = x ∧ (x = 0 ∨ x = 1) := by
  unfold bz at h
  split at h
  · next hq => cases h; exact ⟨rfl, hq⟩
  · cases h
theorem bz_nar {x : Int32} (h : x = 0 ∨ x = 1) : narrow .boolean (.int x) = .int x := by
  rcases h with rfl | rfl <;> rfl
theorem bz_fits {x : Int32} (h : x = 0 ∨ x = 1) : fits .boolean (.int x) = true := by
  rcases h with rfl | rfl <;> rfl
theorem bz_vp {x : Int32} (h : x = 0 ∨ x = 1) : vp_nar .boolean x = x := by
  rcases h with rfl | rfl <;> rfl
def gA (S : Ws) (a t : Nat) : Option (Nat × ((Nat → Int32) ⊕ (Nat → Int64) ⊕ (Nat → Option Nat))) := match S.2 a with
  | some (.inl (t', n, f)) => if t' = t then some (n, f) else none
  | _ => none
theorem gA_some {S : Ws} {a t : Nat} {q : Nat × ((Nat → Int32) ⊕ (Nat → Int64) ⊕ (Nat → Option Nat))} (h : gA S a t = some q) : S.2 a = some (.inl (t, q)) := by
  unfold gA at h
  split at h
  · next t' n f e =>
    split at h
    · next hi =>
      cases h
      subst hi
      exact e
    · cases h
  · cases h
def aN (S : Ws) (a t : Nat) : Option Int32 := (gA S a t).bind fun q => some (Int32.ofNat q.1)
/-- an array's place -/
def ax (i : Int32) (n : Nat) : Option Nat := if i < 0 ∨ n ≤ i.toNatClampNeg then none else some i.toNatClampNeg
theorem ax_some {i : Int32} {n k : Nat} (h : ax i n = some k) : vp_in i n ∧ k = i.toNatClampNeg := by
  unfold ax at h
  split at h
  · cases h
  · next hq => cases h; exact ⟨hq, rfl⟩

def aI (S : Ws) (a t : Nat) (i : Int32) : Option (Int32) := (gA S a t).bind fun q => match q with
  | (n, .inl f) => (ax i n).bind fun k => some (f k)
  | _ => none
theorem aI_some {S : Ws} {a t : Nat} {i : Int32} {x : Int32} (h : aI S a t i = some x) : ∃ (n : Nat) (f : Nat → Int32), S.2 a = some (.inl (t, n, .inl f)) ∧ vp_in i n ∧ x = f i.toNatClampNeg := by
  obtain ⟨q, h1, h2⟩ := Option.bind_eq_some_iff.mp h
  have h3 := gA_some h1
  split at h2
  · next n f =>
    obtain ⟨k, h4, h5⟩ := Option.bind_eq_some_iff.mp h2
    obtain ⟨h6, h7⟩ := ax_some h4
    exact ⟨n, f, h3, h6, by rw [← h7]; exact (Option.some.inj h5).symm⟩
  · cases h2
def aL (S : Ws) (a t : Nat) (i : Int32) : Option (Int64) := (gA S a t).bind fun q => match q with
  | (n, .inr (.inl f)) => (ax i n).bind fun k => some (f k)
  | _ => none
theorem aL_some {S : Ws} {a t : Nat} {i : Int32} {x : Int64} (h : aL S a t i = some x) : ∃ (n : Nat) (f : Nat → Int64), S.2 a = some (.inl (t, n, .inr (.inl f))) ∧ vp_in i n ∧ x = f i.toNatClampNeg := by
  obtain ⟨q, h1, h2⟩ := Option.bind_eq_some_iff.mp h
  have h3 := gA_some h1
  split at h2
  · next n f =>
    obtain ⟨k, h4, h5⟩ := Option.bind_eq_some_iff.mp h2
    obtain ⟨h6, h7⟩ := ax_some h4
    exact ⟨n, f, h3, h6, by rw [← h7]; exact (Option.some.inj h5).symm⟩
  · cases h2
def aR (S : Ws) (a t : Nat) (i : Int32) : Option (Option Nat) := (gA S a t).bind fun q => match q with
  | (n, .inr (.inr f)) => (ax i n).bind fun k => some (f k)
  | _ => none
theorem aR_some {S : Ws} {a t : Nat} {i : Int32} {x : Option Nat} (h : aR S a t i = some x) : ∃ (n : Nat) (f : Nat → Option Nat), S.2 a = some (.inl (t, n, .inr (.inr f))) ∧ vp_in i n ∧ x = f i.toNatClampNeg := by
  obtain ⟨q, h1, h2⟩ := Option.bind_eq_some_iff.mp h
  have h3 := gA_some h1
  split at h2
  · next n f =>
    obtain ⟨k, h4, h5⟩ := Option.bind_eq_some_iff.mp h2
    obtain ⟨h6, h7⟩ := ax_some h4
    exact ⟨n, f, h3, h6, by rw [← h7]; exact (Option.some.inj h5).symm⟩
  · cases h2
def sI (S : Ws) (a t : Nat) (i : Int32) (x : Int32) : Option Ws := (gA S a t).bind fun q => match q with
  | (n, .inl f) => (ax i n).bind fun k => some (S.up a (.inl (t, n, .inl (upd f k x))))
  | _ => none
theorem sI_some {S S' : Ws} {a t : Nat} {i : Int32} {x : Int32} (h : sI S a t i x = some S') : ∃ (n : Nat) (f : Nat → Int32), S.2 a = some (.inl (t, n, .inl f)) ∧ vp_in i n ∧ S' = S.up a (.inl (t, n, .inl (upd f i.toNatClampNeg x))) := by
  obtain ⟨q, h1, h2⟩ := Option.bind_eq_some_iff.mp h
  have h3 := gA_some h1
  split at h2
  · next n f =>
    obtain ⟨k, h4, h5⟩ := Option.bind_eq_some_iff.mp h2
    obtain ⟨h6, h7⟩ := ax_some h4
    exact ⟨n, f, h3, h6, by rw [← h7]; exact (Option.some.inj h5).symm⟩
  · cases h2
def sL (S : Ws) (a t : Nat) (i : Int32) (x : Int64) : Option Ws := (gA S a t).bind fun q => match q with
  | (n, .inr (.inl f)) => (ax i n).bind fun k => some (S.up a (.inl (t, n, .inr (.inl (vp_updL f k x)))))
  | _ => none
theorem sL_some {S S' : Ws} {a t : Nat} {i : Int32} {x : Int64} (h : sL S a t i x = some S') : ∃ (n : Nat) (f : Nat → Int64), S.2 a = some (.inl (t, n, .inr (.inl f))) ∧ vp_in i n ∧ S' = S.up a (.inl (t, n, .inr (.inl (vp_updL f i.toNatClampNeg x)))) := by
  obtain ⟨q, h1, h2⟩ := Option.bind_eq_some_iff.mp h
  have h3 := gA_some h1
  split at h2
  · next n f =>
    obtain ⟨k, h4, h5⟩ := Option.bind_eq_some_iff.mp h2
    obtain ⟨h6, h7⟩ := ax_some h4
    exact ⟨n, f, h3, h6, by rw [← h7]; exact (Option.some.inj h5).symm⟩
  · cases h2
def sR (S : Ws) (a t : Nat) (i : Int32) (x : Option Nat) : Option Ws := (gA S a t).bind fun q => match q with
  | (n, .inr (.inr f)) => (ax i n).bind fun k => some (S.up a (.inl (t, n, .inr (.inr (va_up f k x)))))
  | _ => none
theorem sR_some {S S' : Ws} {a t : Nat} {i : Int32} {x : Option Nat} (h : sR S a t i x = some S') : ∃ (n : Nat) (f : Nat → Option Nat), S.2 a = some (.inl (t, n, .inr (.inr f))) ∧ vp_in i n ∧ S' = S.up a (.inl (t, n, .inr (.inr (va_up f i.toNatClampNeg x)))) := by
  obtain ⟨q, h1, h2⟩ := Option.bind_eq_some_iff.mp h
  have h3 := gA_some h1
  split at h2
  · next n f =>
    obtain ⟨k, h4, h5⟩ := Option.bind_eq_some_iff.mp h2
    obtain ⟨h6, h7⟩ := ax_some h4
    exact ⟨n, f, h3, h6, by rw [← h7]; exact (Option.some.inj h5).symm⟩
  · cases h2
/-- the kind of an object that is one of cs; null passes -/
def ck (S : Ws) (r : Option Nat) (cs : List Nat) : Option Unit := match r with
  | none => some ()
  | some a => (gO S a cs).bind fun _ => some ()
/-- a loop of the story: a step goes on with a new state, or ends it -/
def lp {σ ρ : Type} (step : σ → Option (σ ⊕ ρ)) : Nat → σ → Option ρ
  | 0, _ => none
  | n + 1, s => (step s).bind fun r => match r with
    | .inl s' => lp step n s'
    | .inr x => some x
theorem ob {α β : Type} {o : Option α} {f : α → Option β} {r : β} (h : o.bind f = some r) : ∃ a, o = some a ∧ f a = some r := Option.bind_eq_some_iff.mp h
theorem if_t {α : Type} {c : Prop} [Decidable c] {A B r : α} (hc : c) (h : (if c then A else B) = r) : A = r := by
  rw [if_pos hc] at h
  exact h
theorem if_f {α : Type} {c : Prop} [Decidable c] {A B r : α} (hc : ¬ c) (h : (if c then A else B) = r) : B = r := by
  rw [if_neg hc] at h
  exact h
/-- null, or an object -/
def oc {α : Type} (x : Option Nat) (A : α) (B : Nat → α) : α := match x with
  | none => A
  | some a => B a
theorem oc_n {α : Type} {A : α} {B : Nat → α} {r : α} (h : oc none A B = r) : A = r := h
theorem oc_s {α : Type} {a : Nat} {A : α} {B : Nat → α} {r : α} (h : oc (some a) A B = r) : B a = r := h
theorem rf_cat (r : Option Nat) : (va_rf r).category = 1 := by cases r <;> rfl
theorem rf_nar {C : String} (r : Option Nat) : narrow (.object C) (va_rf r) = va_rf r := by cases r <;> rfl
theorem rf_fit {C : String} (r : Option Nat) : fits (.object C) (va_rf r) = true := by cases r <;> rfl
theorem lp_ind {σ ρ : Type} {step : σ → Option (σ ⊕ ρ)} {P : σ → Prop} {Q : ρ → Prop} {r : ρ} (hs : ∀ s x, step s = some x → (∀ s', x = .inl s' → P s') → (∀ y, x = .inr y → Q y) → P s) (hq : Q r) : ∀ n s, lp step n s = some r → P s := by
  intro n
  induction n with
  | zero => intro s h; cases h
  | succ n ih =>
    intro s h
    obtain ⟨x, h1, h2⟩ := Option.bind_eq_some_iff.mp h
    cases x with
    | inl s' => exact hs s _ h1 (fun s2 e => by cases e; exact ih s' h2) (fun y e => by cases e)
    | inr y =>
      have e : y = r := Option.some.inj h2
      subst e
      exact hs s _ h1 (fun s2 e => by cases e) (fun z e => by cases e; exact hq)
section HQ
variable {p : Program} {l : Launch} {e : Env} {R : Room} {s : State} {m : MethodId} {args : Array Value} {below : List Frame} {meth : Method} {c : Code} {H : Heap} {locs : List Loc} {cells slots : Nat} {Q : State → Prop}
variable {cc : ByteArray} {pc : Nat} {ls : Array Slot} {rest : List Value} {D : va_G} {cl : List vw_C} {tys : List (ClassId × FieldType)} {b : Nat} {S S' : Ws}
theorem W.size {g : JFrame} (k : H.size ≤ s.heap.size + cells → W p l e R s m args below meth c H locs cells slots Q g) : W p l e R s m args below meth c H locs cells slots Q g := by
  intro T hT X
  refine k ?_ T hT X
  have h1 := X.heapSize
  rw [← hT]
  exact h1
/-- what is counted as new may be counted exactly -/
theorem W.tight {g : JFrame} (h : s.heap.size ≤ H.size) (k : W p l e R s m args below meth c H locs (H.size - s.heap.size) slots Q g) : W p l e R s m args below meth c H locs cells slots Q g := by
  intro T hT X
  refine k T hT { X with same := ⟨X.same.1, X.same.2.1, ?_, X.same.2.2.2⟩ }
  show T.heap.size ≤ s.heap.size + (H.size - s.heap.size)
  rw [hT]
  omega
theorem Wd.start (h : Wp D cl tys b S s) : Wd D cl tys b S s s.heap [] := ⟨⟨h.1, h.2.1, by rw [h.1]; exact h.2.1.1, h.2.2.2.2⟩, h.2.2.1, h.2.2.2.1, va_S.rf⟩
theorem Wd.out {t : State} (h : Wd D cl tys b S s H locs) (ht : t.heap = H) (hWm : s.WarmedH t.vm) : Wp D cl tys b S t :=
  ⟨by rw [ht]; exact h.1.1, h.1.2.1, by rw [ht]; exact h.2.1, va_K.moved hWm.alike h.2.2.1, h.1.2.2.2.warm hWm⟩
theorem Wd.nw (h : Wd D cl tys b S s H locs) : NW s := h.1.2.2.2
theorem Wd.put {a : Nat} {x y : Cel} {H1 : Heap} {locs1 : List Loc} (h : Wd D cl tys b S s H locs) (hx : S.2 a = some x) (hz : H1.size ≤ H.size) (hP : va_P D cl ((hq_ws tys b S).set (a - b) (a, hq_E tys y)) H1) (hS : va_S (fun q => b ≤ q) s.heap H1 locs1) : Wd D cl tys b (S.up a y) s H1 locs1 := by
  obtain ⟨⟨h1, h2, h3, h3n⟩, h4, h5, h6⟩ := h
  rw [hq_set h2 hx] at hP
  have hd2 := hq_domup (y := y) h2 hx
  have hb := h2.2.1 a x hx
  obtain ⟨z, hz2⟩ := hd2.2.2 (S.1 - 1) (by omega) (by show S.1 - 1 < S.1; omega)
  have h7 : S.1 - 1 < H1.size := (hP _ _ (hq_ix hd2 hz2)).lt
  exact ⟨⟨by show H1.size = S.1; omega, hd2, h3, h3n⟩, hP, h5, hS⟩
theorem Wd.push {y : Cel} {H1 : Heap} (h : Wd D cl tys b S s H locs) (hz : H1.size = S.1 + 1) (ho : ∀ q, q < S.1 → H1[q]? = H[q]?) (hx : va_at D cl (S.1, hq_E tys y) H1) : Wd D cl tys b (S.add y) s H1 locs := by
  obtain ⟨⟨h1, h2, h3, h3n⟩, h4, h5, h6⟩ := h
  have hd2 := hq_domadd (y := y) h2
  have hs2 := h6.1
  refine ⟨⟨hz, hd2, h3, h3n⟩, fun k q hk => ?_, h5, ⟨by omega, fun q g1 g2 => ?_, h6.2.2⟩⟩
  · obtain ⟨z, g1, g2, rfl⟩ := hq_of hd2 hk
    have g1 : va_up S.2 S.1 (some y) (b + k) = some z := g1
    by_cases he : b + k = S.1
    · rw [he, va_up_self] at g1
      rw [he, ← Option.some.inj g1]
      exact hx
    · rw [va_up_ne _ _ he] at g1
      have hlt : b + k < S.1 := (h2.2.1 _ _ g1).2
      exact (h4 _ _ (hq_ix h2 g1)).kept (ho _ hlt)
  · exact (ho q (by omega)).trans (h6.2.1 q g1 g2)
/-- what the tables must say of a field that an instruction names, for a receiver of kind number ci -/
def Fk (cl : List vw_C) (args : Array Value) (s : State) (Ts : List Cond) (own : String) (index k : Nat) (ci : Nat) : Prop :=
  ∃ (C : String) (T : u_T) (N : Nat) (ref : String), cl[ci]? = some (C, T, N) ∧ k < N ∧ (∀ w ∈ u_ws C T N, w ∈ Ts) ∧ (Cond.fieldLink own index ref (T k).2.1 (T k).2.2.1).before args s = true ∧ ∀ x, s.fieldFound? (T k).1 (T k).2.1 (T k).2.2.1 = some x → s.fieldFound? ref (T k).2.1 (T k).2.2.1 = some x
/-- and of one that is written -/
def Fp (cl : List vw_C) (meth : Method) (own : String) (k : Nat) (ty : FieldType) (ci : Nat) : Prop :=
  ∃ (C : String) (T : u_T) (N : Nat) (ty0 : Nat → FieldType), cl[ci]? = some (C, T, N) ∧ (∀ k, k < N → parseFieldDescriptor (T k).2.2.1 = some (ty0 k)) ∧ (∀ a, a < N → ∀ b, b < N → a ≠ b → (T a).2.1 ≠ (T b).2.1) ∧ parseFieldDescriptor (T k).2.2.1 = some ty ∧ ((T k).2.2.2 = false ∨ ((T k).2.2.2 = true ∧ meth.name = "<init>" ∧ (T k).1 = own))
theorem fk_mk {cl : List vw_C} {args : Array Value} {s : State} {Ts : List Cond} {own : String} {index k ci : Nat} (C : String) (T : u_T) (N : Nat) (ref : String) (h1 : cl[ci]? = some (C, T, N)) (h2 : k < N) (h3 : ∀ w ∈ u_ws C T N, w ∈ Ts) (h4 : (Cond.fieldLink own index ref (T k).2.1 (T k).2.2.1).before args s = true) (h5 : ∀ x, s.fieldFound? (T k).1 (T k).2.1 (T k).2.2.1 = some x → s.fieldFound? ref (T k).2.1 (T k).2.2.1 = some x) : Fk cl args s Ts own index k ci := ⟨C, T, N, ref, h1, h2, h3, h4, h5⟩
theorem fp_mk {cl : List vw_C} {meth : Method} {own : String} {k ci : Nat} {ty : FieldType} (C : String) (T : u_T) (N : Nat) (ty0 : Nat → FieldType) (h1 : cl[ci]? = some (C, T, N)) (h2 : ∀ k, k < N → parseFieldDescriptor (T k).2.2.1 = some (ty0 k)) (h3 : ∀ a, a < N → ∀ b, b < N → a ≠ b → (T a).2.1 ≠ (T b).2.1) (h4 : parseFieldDescriptor (T k).2.2.1 = some ty) (h5 : (T k).2.2.2 = false ∨ ((T k).2.2.2 = true ∧ meth.name = "<init>" ∧ (T k).1 = own)) : Fp cl meth own k ty ci := ⟨C, T, N, ty0, h1, h2, h3, h4, h5⟩
theorem fk1 {P : Nat → Prop} {i : Nat} (h : P i) : ∀ x ∈ [i], P x := by
  intro x hx
  rw [List.mem_singleton] at hx
  rw [hx]; exact h
theorem fk2 {P : Nat → Prop} {i j : Nat} (h : P i) (h2 : P j) : ∀ x ∈ [i, j], P x := by
  intro x hx
  rcases List.mem_cons.mp hx with h3 | h3
  · rw [h3]; exact h
  · rw [List.mem_singleton.mp h3]; exact h2
theorem hq_get (hexec : p.tables.exec = Jvm.exec) (hb : c.code = cc) {own : String} {index : Nat} {Ts : List Cond} (hts : ∀ w ∈ Ts, w.before args s = true) (hown : s.vm.findClass own = some m.cls) (hW : Wd D cl tys b S s H locs) {a k : Nat} {cs : List Nat} {v : Value} (hv : gV S a cs k = some v) (hf : ∀ ci ∈ cs, Fk cl args s Ts own index k ci) (hdg : decode cc pc = .ok (.getfield index, 3))
    (kk : W p l e R s m args below meth c H locs cells slots Q (F0 m (pc + 3) ls (v :: rest))) : W p l e R s m args below meth c H locs cells slots Q (F0 m pc ls (.ref a :: rest)) := by
  obtain ⟨q, h1, h2⟩ := Option.bind_eq_some_iff.mp hv
  obtain ⟨h3, h4⟩ := gO_some h1
  obtain ⟨C, T, N, ref, f1, f2, f3, f4, f5⟩ := hf _ h4
  exact va_get hexec hb hts f3 hown hW.2.2.1 hW.2.1 (a - b) (hq_ix hW.1.2.1 h3) f1 k f2 f4 f5 h2 hdg kk
theorem hq_put (hexec : p.tables.exec = Jvm.exec) (hb : c.code = cc) {own : String} {index : Nat} {Ts : List Cond} (hts : ∀ w ∈ Ts, w.before args s = true) (hown : s.vm.findClass own = some m.cls) (hW : Wd D cl tys b S s H locs) {a k : Nat} {cs : List Nat} {v : Value} {ty : FieldType} (hv : pV S a cs k v = some S') (hf : ∀ ci ∈ cs, Fk cl args s Ts own index k ci) (hf2 : ∀ ci ∈ cs, Fp cl meth own k ty ci) (hn : narrow ty v = v) (hfit : fits ty v = true) (hdg : decode cc pc = .ok (.putfield index, 3))
    (kk : ∀ (H1 : Heap) (locs1 : List Loc), Wd D cl tys b S' s H1 locs1 → W p l e R s m args below meth c H1 locs1 cells slots Q (F0 m (pc + 3) ls rest)) : W p l e R s m args below meth c H locs cells slots Q (F0 m pc ls (v :: .ref a :: rest)) := by
  obtain ⟨ci, fs, h3, h4, hl, rfl⟩ := pV_some hv
  obtain ⟨C, T, N, ref, f1, f2, f3, f4, f5⟩ := hf _ h4
  obtain ⟨C', T', N', ty0, g1, g2, g3, g4, g5⟩ := hf2 _ h4
  obtain ⟨rfl, rfl, rfl⟩ : C' = C ∧ T' = T ∧ N' = N := by
    have e := Option.some.inj (g1.symm.trans f1)
    simp only [Prod.mk.injEq] at e
    exact e
  refine W.size fun hs0 => W.tight hW.2.2.2.1 ?_
  rcases g5 with g5 | ⟨g5, g6, g7⟩
  · refine va_put hexec hb hts f3 ty0 g2 g3 hown hW.2.2.1 hW.2.1 (hq_D hW.1.2.1) hW.2.2.2 (a - b) (hq_ix hW.1.2.1 h3) f1 k f2 f4 f5 g5 g4 hn hfit hl hdg (fun H1 locs1 hP1 hD1 hS1 => W.size (fun hs => W.widen (by have := hW.2.2.2.1; omega) (Nat.le_refl _) (kk H1 locs1 (hW.put h3 (by have := hW.2.2.2.1; omega) hP1 hS1))))
  · refine va_putF hexec hb hts f3 ty0 g2 g3 hown hW.2.2.1 hW.2.1 (hq_D hW.1.2.1) hW.2.2.2 (a - b) (hq_ix hW.1.2.1 h3) f1 k f2 f4 f5 g5 g6 g7 g4 hn hfit hl hdg (fun H1 locs1 hP1 hD1 hS1 => W.size (fun hs => W.widen (by have := hW.2.2.2.1; omega) (Nat.le_refl _) (kk H1 locs1 (hW.put h3 (by have := hW.2.2.2.1; omega) hP1 hS1))))
theorem hq_iald (hexec : p.tables.exec = Jvm.exec) (hb : c.code = cc) (hW : Wd D cl tys b S s H locs) {a t : Nat} {i : Int32} {x : Int32} (hv : aI S a t i = some x) (ht : (tys.map Prod.snd)[t]? = some .int) (hdg : decode cc pc = .ok (.iaload, 1))
    (kk : W p l e R s m args below meth c H locs cells slots Q (F0 m (pc + 1) ls (.int x :: rest))) : W p l e R s m args below meth c H locs cells slots Q (F0 m pc ls (.int i :: .ref a :: rest)) := by
  obtain ⟨n, f, h1, h2, rfl⟩ := aI_some hv
  exact va_iald hexec hb hW.2.2.1 hW.2.1 (a - b) t (hq_ix hW.1.2.1 h1) (hq_tc_of ht) h2 hdg kk
theorem hq_zald (hexec : p.tables.exec = Jvm.exec) (hb : c.code = cc) (hW : Wd D cl tys b S s H locs) {a t : Nat} {i : Int32} {x : Int32} (hv : aI S a t i = some x) (ht : (tys.map Prod.snd)[t]? = some .boolean) (hdg : decode cc pc = .ok (.baload, 1))
    (kk : W p l e R s m args below meth c H locs cells slots Q (F0 m (pc + 1) ls (.int x :: rest))) : W p l e R s m args below meth c H locs cells slots Q (F0 m pc ls (.int i :: .ref a :: rest)) := by
  obtain ⟨n, f, h1, h2, rfl⟩ := aI_some hv
  exact va_zald hexec hb hW.2.2.1 hW.2.1 (a - b) t (hq_ix hW.1.2.1 h1) (hq_tc_of ht) h2 hdg kk
theorem hq_lald (hexec : p.tables.exec = Jvm.exec) (hb : c.code = cc) (hW : Wd D cl tys b S s H locs) {a t : Nat} {i : Int32} {x : Int64} (hv : aL S a t i = some x) (ht : (tys.map Prod.snd)[t]? = some .long) (hdg : decode cc pc = .ok (.laload, 1))
    (kk : W p l e R s m args below meth c H locs cells slots Q (F0 m (pc + 1) ls (.long x :: rest))) : W p l e R s m args below meth c H locs cells slots Q (F0 m pc ls (.int i :: .ref a :: rest)) := by
  obtain ⟨n, f, h1, h2, rfl⟩ := aL_some hv
  exact va_lald hexec hb hW.2.2.1 hW.2.1 (a - b) t (hq_ix hW.1.2.1 h1) (hq_tc_of ht) h2 hdg kk
theorem hq_aald (hexec : p.tables.exec = Jvm.exec) (hb : c.code = cc) (hW : Wd D cl tys b S s H locs) {a t : Nat} {i : Int32} {x : Option Nat} {C : String} (hv : aR S a t i = some x) (ht : (tys.map Prod.snd)[t]? = some (.object C)) (hdg : decode cc pc = .ok (.aaload, 1))
    (kk : W p l e R s m args below meth c H locs cells slots Q (F0 m (pc + 1) ls (va_rf x :: rest))) : W p l e R s m args below meth c H locs cells slots Q (F0 m pc ls (.int i :: .ref a :: rest)) := by
  obtain ⟨n, f, h1, h2, rfl⟩ := aR_some hv
  exact va_aldq hexec hb hW.2.2.1 hW.2.1 (a - b) t (hq_ix hW.1.2.1 h1) (hq_tc_of ht) h2 hdg kk
theorem hq_alen (hexec : p.tables.exec = Jvm.exec) (hb : c.code = cc) (hW : Wd D cl tys b S s H locs) {a t : Nat} {x : Int32} {ty : FieldType} (hv : aN S a t = some x) (ht : (tys.map Prod.snd)[t]? = some ty) (hdg : decode cc pc = .ok (.arraylength, 1))
    (kk : W p l e R s m args below meth c H locs cells slots Q (F0 m (pc + 1) ls (.int x :: rest))) : W p l e R s m args below meth c H locs cells slots Q (F0 m pc ls (.ref a :: rest)) := by
  obtain ⟨q, h1, h2⟩ := Option.bind_eq_some_iff.mp hv
  have h3 := hq_ix (tys := tys) hW.1.2.1 (gA_some h1)
  obtain ⟨n, f | f | f⟩ := q
  · exact va_alen hexec hb hW.2.2.1 hW.2.1 (a - b) t h3 (hq_tc_of ht) (Option.some.inj h2) hdg kk
  · exact va_alen hexec hb hW.2.2.1 hW.2.1 (a - b) t h3 (hq_tc_of ht) (Option.some.inj h2) hdg kk
  · exact va_alen hexec hb hW.2.2.1 hW.2.1 (a - b) t h3 (hq_tc_of ht) (Option.some.inj h2) hdg kk
theorem hq_iast (hexec : p.tables.exec = Jvm.exec) (hb : c.code = cc) (hW : Wd D cl tys b S s H locs) {a t : Nat} {i : Int32} {x : Int32} (hv : sI S a t i x = some S') (ht : (tys.map Prod.snd)[t]? = some .int) (hdg : decode cc pc = .ok (.iastore, 1))
    (kk : ∀ (H1 : Heap) (locs1 : List Loc), Wd D cl tys b S' s H1 locs1 → W p l e R s m args below meth c H1 locs1 cells slots Q (F0 m (pc + 1) ls rest)) : W p l e R s m args below meth c H locs cells slots Q (F0 m pc ls (.int x :: .int i :: .ref a :: rest)) := by
  obtain ⟨n, f, h1, h2, rfl⟩ := sI_some hv
  refine W.size fun hs0 => W.tight hW.2.2.2.1 ?_
  exact va_iast hexec hb hW.2.2.1 hW.2.1 (hq_D hW.1.2.1) hW.2.2.2 (a - b) t (hq_ix hW.1.2.1 h1) (hq_tc_of ht) h2 hdg (fun H1 locs1 hP1 hD1 hS1 => W.size (fun hs => W.widen (by have := hW.2.2.2.1; omega) (Nat.le_refl _) (kk H1 locs1 (hW.put h1 (by have := hW.2.2.2.1; omega) hP1 hS1))))
theorem hq_last (hexec : p.tables.exec = Jvm.exec) (hb : c.code = cc) (hW : Wd D cl tys b S s H locs) {a t : Nat} {i : Int32} {x : Int64} (hv : sL S a t i x = some S') (ht : (tys.map Prod.snd)[t]? = some .long) (hdg : decode cc pc = .ok (.lastore, 1))
    (kk : ∀ (H1 : Heap) (locs1 : List Loc), Wd D cl tys b S' s H1 locs1 → W p l e R s m args below meth c H1 locs1 cells slots Q (F0 m (pc + 1) ls rest)) : W p l e R s m args below meth c H locs cells slots Q (F0 m pc ls (.long x :: .int i :: .ref a :: rest)) := by
  obtain ⟨n, f, h1, h2, rfl⟩ := sL_some hv
  refine W.size fun hs0 => W.tight hW.2.2.2.1 ?_
  exact va_last hexec hb hW.2.2.1 hW.2.1 (hq_D hW.1.2.1) hW.2.2.2 (a - b) t (hq_ix hW.1.2.1 h1) (hq_tc_of ht) h2 hdg (fun H1 locs1 hP1 hD1 hS1 => W.size (fun hs => W.widen (by have := hW.2.2.2.1; omega) (Nat.le_refl _) (kk H1 locs1 (hW.put h1 (by have := hW.2.2.2.1; omega) hP1 hS1))))
theorem hq_zast (hexec : p.tables.exec = Jvm.exec) (hb : c.code = cc) (hW : Wd D cl tys b S s H locs) {a t : Nat} {i : Int32} {x : Int32} (hv : sI S a t i x = some S') (ht : (tys.map Prod.snd)[t]? = some .boolean) (hbz : x = 0 ∨ x = 1) (hdg : decode cc pc = .ok (.bastore, 1))
    (kk : ∀ (H1 : Heap) (locs1 : List Loc), Wd D cl tys b S' s H1 locs1 → W p l e R s m args below meth c H1 locs1 cells slots Q (F0 m (pc + 1) ls rest)) : W p l e R s m args below meth c H locs cells slots Q (F0 m pc ls (.int x :: .int i :: .ref a :: rest)) := by
  obtain ⟨n, f, h1, h2, rfl⟩ := sI_some hv
  refine W.size fun hs0 => W.tight hW.2.2.2.1 ?_
  refine va_zast hexec hb hW.2.2.1 hW.2.1 (hq_D hW.1.2.1) hW.2.2.2 (a - b) t (hq_ix hW.1.2.1 h1) (hq_tc_of ht) h2 hdg (fun H1 locs1 hP1 hD1 hS1 => W.size (fun hs => W.widen (by have := hW.2.2.2.1; omega) (Nat.le_refl _) (kk H1 locs1 (hW.put h1 (by have := hW.2.2.2.1; omega) ?_ hS1))))
  rw [bz_vp hbz] at hP1
  exact hP1
/-- an array of references takes an object of one of the kinds cs, or null -/
theorem hq_aast (hexec : p.tables.exec = Jvm.exec) (hb : c.code = cc) (hW : Wd D cl tys b S s H locs) {a t : Nat} {i : Int32} {x : Option Nat} {E : String} {cs : List Nat} (hck : ck S x cs = some ()) (hv : sR S a t i x = some S') (ht : (tys.map Prod.snd)[t]? = some (.object E)) (hca : ∀ ci ∈ cs, ∃ r : vw_C, cl[ci]? = some r ∧ (r.1 = E ∨ va_Nw (.castable r.1 E) s)) (hdg : decode cc pc = .ok (.aastore, 1))
    (kk : ∀ (H1 : Heap) (locs1 : List Loc), Wd D cl tys b S' s H1 locs1 → W p l e R s m args below meth c H1 locs1 cells slots Q (F0 m (pc + 1) ls rest)) : W p l e R s m args below meth c H locs cells slots Q (F0 m pc ls (va_rf x :: .int i :: .ref a :: rest)) := by
  obtain ⟨n, f, h1, h2, rfl⟩ := sR_some hv
  refine W.size fun hs0 => W.tight hW.2.2.2.1 ?_
  cases x with
  | none => exact va_astqN hexec hb hW.2.2.1 hW.2.1 (hq_D hW.1.2.1) hW.2.2.2 (a - b) t (hq_ix hW.1.2.1 h1) (hq_tc_of ht) h2 hdg (fun H1 locs1 hP1 hD1 hS1 => W.size (fun hs => W.widen (by have := hW.2.2.2.1; omega) (Nat.le_refl _) (kk H1 locs1 (hW.put h1 (by have := hW.2.2.2.1; omega) hP1 hS1))))
  | some v =>
    obtain ⟨q, g1, -⟩ := Option.bind_eq_some_iff.mp hck
    obtain ⟨g2, g3⟩ := gO_some g1
    obtain ⟨r, g4, g5⟩ := hca _ g3
    have ht2 := hq_tc_of ht
    rcases g5 with rfl | g5
    · exact va_astq hexec hb hW.2.2.1 hW.2.1 (hq_D hW.1.2.1) hW.2.2.2 (a - b) t (v - b) q.1 (hq_ix hW.1.2.1 h1) ht2 (hq_ix hW.1.2.1 g2) g4 h2 hdg (fun H1 locs1 hP1 hD1 hS1 => W.size (fun hs => W.widen (by have := hW.2.2.2.1; omega) (Nat.le_refl _) (kk H1 locs1 (hW.put h1 (by have := hW.2.2.2.1; omega) hP1 hS1))))
    · exact va_astqO hexec hb hW.2.2.1 hW.2.1 (hq_D hW.1.2.1) hW.2.2.2 (a - b) t (v - b) q.1 (hq_ix hW.1.2.1 h1) ht2 g5 (hq_ix hW.1.2.1 g2) g4 h2 hdg (fun H1 locs1 hP1 hD1 hS1 => W.size (fun hs => W.widen (by have := hW.2.2.2.1; omega) (Nat.le_refl _) (kk H1 locs1 (hW.put h1 (by have := hW.2.2.2.1; omega) hP1 hS1))))
theorem hq_new (hexec : p.tables.exec = Jvm.exec) (hb : c.code = cc) {own C : String} {T : u_T} {N ci index : Nat} {Ts : List Cond} (hts : ∀ w ∈ Ts, w.before args s = true) (hin : ∀ w ∈ u_ws C T N, w ∈ Ts) (ty : Nat → FieldType) (hty : ∀ k, k < N → parseFieldDescriptor (T k).2.2.1 = some (ty k)) (hown : s.vm.findClass own = some m.cls) (hcl : (Cond.classLink own index C).before args s = true) (hinst : (Cond.instantiable C N).before args s = true) (hini : (Cond.initialized C).before args s = true)
    (hW : Wd D cl tys b S s H locs) (hc : cl[ci]? = some (C, T, N)) {fs : List Value} (hfs : ∀ j, j < N → defaultValue (ty j) = vp_V fs j) {ce sl : Nat} (hce : cells + 1 = ce) (hsl : slots + N = sl) (hcells : ce ≤ R.cells) (hslots : sl ≤ R.slots) (hdg : decode cc pc = .ok (.new index, 3))
    (kk : ∀ H1 : Heap, Wd D cl tys b (S.add (.inr (ci, fs))) s H1 locs → W p l e R s m args below meth c H1 locs ce sl Q (F0 m (pc + 3) ls (.ref S.1 :: rest))) : W p l e R s m args below meth c H locs cells slots Q (F0 m pc ls rest) := by
  subst hce hsl
  have hKn := hW.2.2.1.1 ci _ hc
  refine W.newcK hexec hb hown hcl hinst hini rfl hdg hcells hslots hKn.2.1 hW.1.1 fun H1 kC hkC e1 z1 o1 => ?_
  exact kk H1 (hW.push z1 o1 ⟨_, hc, (u_born ty hts hin hKn hkC e1 hty).to hfs⟩)
theorem hq_newa (hexec : p.tables.exec = Jvm.exec) (hb : c.code = cc) {atype : ArrayType} (harr : (Cond.arrayClass (newarray.typeOf atype)).before args s = true) {ty : FieldType} (hty : newarray.typeOf atype = ty) (hno : ∀ C, ty ≠ .object C) (hW : Wd D cl tys b S s H locs) (t : Nat) (ht : (tys.map Prod.snd)[t]? = some ty)
    {i : Int32} {N : Nat} {a0 : (Nat → Int32) ⊕ (Nat → Int64) ⊕ (Nat → Option Nat)} (ha : ∀ cA : ClassId, vp_cell cA (N, match a0 with | .inl f => .inl f | .inr (.inl f) => .inr (.inl f) | .inr (.inr f) => .inr (.inr (.inr (.inr f)))) = arrV cA N (fun _ => defaultValue ty)) (hi : ¬ i < 0) (hN : i.toNatClampNeg = N) (hbytes : N * componentBytes ty ≤ 536870912) {ce sl : Nat} (hce : cells + 1 = ce) (hsl : slots + N = sl) (hcells : ce ≤ R.cells) (hslots : sl ≤ R.slots) (hdg : decode cc pc = .ok (.newarray atype, 2))
    (kk : ∀ H1 : Heap, Wd D cl tys b (S.add (.inl (t, N, a0))) s H1 locs → W p l e R s m args below meth c H1 locs ce sl Q (F0 m (pc + 2) ls (.ref S.1 :: rest))) : W p l e R s m args below meth c H locs cells slots Q (F0 m pc ls (.int i :: rest)) := by
  subst hty hce hsl
  refine va_newaK hexec hb harr rfl hdg rfl hi hN hbytes hcells hslots hW.1.1 fun H1 cB e1 z1 o1 hAr hNm => ?_
  have ht2 := hq_tc_of ht
  have e2 : s.vm.findClass ("[" ++ (newarray.typeOf atype).toString) = some (hq_tc tys t) := by
    have h4 := (hW.2.2.1.2 t _ ht2).2
    revert h4 hno
    generalize newarray.typeOf atype = ty
    cases ty <;> intro hno h4 <;> first | exact h4 | exact absurd rfl (hno _)
  have hcB : cB = hq_tc tys t := Option.some.inj (hNm.symm.trans e2)
  have hA := ha cB
  refine kk H1 (hW.push z1 o1 ?_)
  rw [← hA, hcB] at e1
  obtain f | f | f := a0
  · exact e1
  · exact e1
  · exact e1
theorem hq_newq (hexec : p.tables.exec = Jvm.exec) (hb : c.code = cc) {own C : String} {index : Nat} (hown : s.vm.findClass own = some m.cls) (hclink : (Cond.classLink own index C).before args s = true) (hover : va_AO C s) (hW : Wd D cl tys b S s H locs) (t : Nat) (ht : (tys.map Prod.snd)[t]? = some (.object C))
    {i : Int32} {N : Nat} (hi : ¬ i < 0) (hN : i.toNatClampNeg = N) (hbytes : N * 4 ≤ 536870912) {ce sl : Nat} (hce : cells + 1 = ce) (hsl : slots + N = sl) (hcells : ce ≤ R.cells) (hslots : sl ≤ R.slots) (hdg : decode cc pc = .ok (.anewarray index, 3))
    (kk : ∀ H1 : Heap, Wd D cl tys b (S.add (.inl (t, N, .inr (.inr (fun _ => none))))) s H1 locs → W p l e R s m args below meth c H1 locs ce sl Q (F0 m (pc + 3) ls (.ref S.1 :: rest))) : W p l e R s m args below meth c H locs cells slots Q (F0 m pc ls (.int i :: rest)) := by
  subst hN hce hsl
  refine W.anew hexec hb hown hclink (va_AO.use hover) rfl hdg rfl hi hbytes hcells hslots fun cB kA comp f1 f2 f3 f4 => ?_
  obtain ⟨_, _, -, -, -, e1⟩ := (hW.2.2.1.2 t _ (hq_tc_of ht)).2
  have hcB : cB = hq_tc tys t := Option.some.inj (f1.symm.trans e1)
  subst hcB
  have h1 := hW.1.1
  have h3 := kk _ (hW.push (y := .inl (t, i.toNatClampNeg, .inr (.inr (fun _ => none)))) (H1 := H.push ({ cls := hq_tc tys t, slots := Array.replicate i.toNatClampNeg .null, vm := .none } : Cell)) (by rw [Array.size_push, h1]) (fun q hq => by rw [Array.getElem?_push, if_neg (by omega)]) (by show (H.push _)[S.1]? = some (vp_cell _ _); rw [← h1, Array.getElem?_push_size, vp_cell_q, ← arrV_new]; rfl))
  rw [← h1] at h3
  exact h3
theorem hq_ofW {y : MethodName} {ws ws' : List Cond} {rm : Room} {av : List Value} {Qc : Array Value → State → Outcome → State → Prop} {mc ms : Nat} {free : Addr → Prop} {maxL : Nat} {ret : Option FieldType} (hy : plainName y.cls = true) (hw : ws = Cond.code y cc maxL ret :: ws') (hav : (lg_sl av).length ≤ maxL)
    (body : ∀ (p : Program) (e : Env) (s : State) (m : MethodId) (args : Array Value) (below : List Frame) (meth : Method) (c : Code), p.tables.exec = Jvm.exec → c.code = cc → meth.sig.returnType = ret → (∀ w ∈ ws, w.before args s = true) → s.vm.findClass y.cls = some m.cls → meth.locks = false → meth.name = y.name → c.maxLocals = maxL → ∀ (H : Heap) (locs : List Loc) (ls : Array Slot), lv_has ls maxL (lv_args 0 av) → Wd D cl tys b S s H locs →
      W p l e rm s m args below meth c H locs 0 0 (MQ below Qc args s mc ms free) (F0 m 0 ls [])) : Met l y ws rm (va_Pc av (Wp D cl tys b S)) Qc mc ms free := by
  refine Met.ofW (cc := cc) (maxL := maxL) (ret := ret) hy hw ?_
  intro p e s m args below meth c s₁ B hml hv
  obtain ⟨rfl, hW⟩ := hv
  have hl := lv_entry av (n := maxL) hav
  rw [lg_entry_eq]
  generalize (lg_sl av ++ List.replicate (maxL - (lg_sl av).length) Slot.unset).toArray = ls at hl ⊢
  exact body p e s m _ below meth c B.exec B.bytes B.returns (atoms_spec (ws := ws) B.pre) (findClass_of_methodNamed B.named) B.notSynchronized (name_of_methodNamed B.named B.method).1 hml _ _ ls hl (Wd.start hW)
theorem hq_blind {av : List Value} : FrameBlind (va_Pc av (Wp D cl tys b S)) := fun a U g mk q => by
  obtain ⟨q0, qz, qd, qP, qK, qN⟩ := q
  exact ⟨q0, qz, qd, qP, va_K.moved (u := U) (U := U.calling g mk a) (Vm.Alike.refl U.vm) qK, NW.same (s := U) (U := U.calling g mk a) rfl qN⟩
theorem hq_preS (hW : Wd D cl tys b S s H locs) {As : List Value} : PreS s H (va_Pc As (Wp D cl tys b S)) As :=
  ⟨hq_blind, fun U hU hWm => ⟨rfl, hW.out hU hWm⟩⟩
theorem hq_preV (hW : Wd D cl tys b S s H locs) {a : Nat} {q : Nat × List Value} {r : vw_C} (he : S.2 a = some (.inr q)) (hc : cl[q.1]? = some r) {C : String} (hC : r.1 = C) {As : List Value} : PreV s H C a (va_Pc (.ref a :: As) (Wp D cl tys b S)) As := by
  subst hC
  exact ⟨hq_blind, va_recv hW.2.2.1 hW.2.1 hc (hq_ix (x := .inr q) hW.1.2.1 he), fun U hU hWm => ⟨rfl, hW.out hU hWm⟩⟩
theorem hq_preV1 (hW : Wd D cl tys b S s H locs) {a ci : Nat} {q : Nat × List Value} {r : vw_C} (he : gO S a [ci] = some q) (hc : cl[ci]? = some r) {C : String} (hC : r.1 = C) {As : List Value} : PreV s H C a (va_Pc (.ref a :: As) (Wp D cl tys b S)) As := by
  obtain ⟨h1, h2⟩ := gO_some he
  rw [← List.mem_singleton.mp h2] at hc
  exact hq_preV hW h1 hc hC
theorem mem2 {x i j : Nat} (h : x ∈ [i, j]) : x = i ∨ x = j := by
  rcases List.mem_cons.mp h with h3 | h3
  · exact Or.inl h3
  · exact Or.inr (List.mem_singleton.mp h3)
variable {st0 : List Value} {a : Array Value} {mc ms : Nat}
theorem hq_calli {r0 : Int32} (hr : va_Run p l e R s m args below meth c H locs cells slots mc ms (F0 m pc ls st0) rest (va_Qi (fun r (_ : Unit) => r = r0) (fun _ => Wp D cl tys b S') (fun q => b ≤ q) a) (fun q => b ≤ q)) (hW : Wd D cl tys b S s H locs) {ce sl : Nat} (hce : cells + mc = ce) (hsl : slots + ms = sl)
    (kk : ∀ (H1 : Heap) (locs1 : List Loc), Wd D cl tys b S' s H1 locs1 → W p l e R s m args below meth c H1 locs1 ce sl Q (F0 m (pc + 3) ls (.int r0 :: rest))) : W p l e R s m args below meth c H locs cells slots Q (F0 m pc ls st0) := by
  subst hce hsl
  exact va_calli hr hW.2.2.2 (fun _ _ h => h) (fun _ h => h) (fun r u t H1 locs1 ht hvm hp hB _ _ hS => by
    subst hp
    exact kk H1 locs1 ⟨⟨by rw [← ht]; exact hB.1, hB.2.1, hW.1.2.2⟩, by rw [← ht]; exact hB.2.2.1, va_K.moved hvm.symm hB.2.2.2.1, hS⟩)
theorem hq_calll {r0 : Int64} (hr : va_Run p l e R s m args below meth c H locs cells slots mc ms (F0 m pc ls st0) rest (va_Ql (fun r (_ : Unit) => r = r0) (fun _ => Wp D cl tys b S') (fun q => b ≤ q) a) (fun q => b ≤ q)) (hW : Wd D cl tys b S s H locs) {ce sl : Nat} (hce : cells + mc = ce) (hsl : slots + ms = sl)
    (kk : ∀ (H1 : Heap) (locs1 : List Loc), Wd D cl tys b S' s H1 locs1 → W p l e R s m args below meth c H1 locs1 ce sl Q (F0 m (pc + 3) ls (.long r0 :: rest))) : W p l e R s m args below meth c H locs cells slots Q (F0 m pc ls st0) := by
  subst hce hsl
  exact va_calll hr hW.2.2.2 (fun _ _ h => h) (fun _ h => h) (fun r u t H1 locs1 ht hvm hp hB _ _ hS => by
    subst hp
    exact kk H1 locs1 ⟨⟨by rw [← ht]; exact hB.1, hB.2.1, hW.1.2.2⟩, by rw [← ht]; exact hB.2.2.1, va_K.moved hvm.symm hB.2.2.2.1, hS⟩)
theorem hq_callq {r0 : Option Nat} (hr : va_Run p l e R s m args below meth c H locs cells slots mc ms (F0 m pc ls st0) rest (va_Qq (fun r (_ : Unit) => r = r0) (fun _ => Wp D cl tys b S') (fun q => b ≤ q) a) (fun q => b ≤ q)) (hW : Wd D cl tys b S s H locs) {ce sl : Nat} (hce : cells + mc = ce) (hsl : slots + ms = sl)
    (kk : ∀ (H1 : Heap) (locs1 : List Loc), Wd D cl tys b S' s H1 locs1 → W p l e R s m args below meth c H1 locs1 ce sl Q (F0 m (pc + 3) ls (va_rf r0 :: rest))) : W p l e R s m args below meth c H locs cells slots Q (F0 m pc ls st0) := by
  subst hce hsl
  exact va_callq hr hW.2.2.2 (fun _ _ h => h) (fun _ h => h) (fun r u t H1 locs1 ht hvm hp hB _ _ hS => by
    subst hp
    exact kk H1 locs1 ⟨⟨by rw [← ht]; exact hB.1, hB.2.1, hW.1.2.2⟩, by rw [← ht]; exact hB.2.2.1, va_K.moved hvm.symm hB.2.2.2.1, hS⟩)
theorem hq_callv (hr : va_Run p l e R s m args below meth c H locs cells slots mc ms (F0 m pc ls st0) rest (va_Qv (fun _ : Unit => True) (fun _ => Wp D cl tys b S') (fun q => b ≤ q) a) (fun q => b ≤ q)) (hW : Wd D cl tys b S s H locs) {ce sl : Nat} (hce : cells + mc = ce) (hsl : slots + ms = sl)
    (kk : ∀ (H1 : Heap) (locs1 : List Loc), Wd D cl tys b S' s H1 locs1 → W p l e R s m args below meth c H1 locs1 ce sl Q (F0 m (pc + 3) ls rest)) : W p l e R s m args below meth c H locs cells slots Q (F0 m pc ls st0) := by
  subst hce hsl
  exact va_callv hr hW.2.2.2 (fun _ _ h => h) (fun _ h => h) (fun u t H1 locs1 ht hvm hp hB _ _ hS => kk H1 locs1 ⟨⟨by rw [← ht]; exact hB.1, hB.2.1, hW.1.2.2⟩, by rw [← ht]; exact hB.2.2.1, va_K.moved hvm.symm hB.2.2.2.1, hS⟩)
/-- the ends: up to the method's own count of cells and slots -/
theorem hq_iret {mcA msA : Nat} {v r : Int32} (hexec : p.tables.exec = Jvm.exec) (hb : c.code = cc) (hr : meth.sig.returnType = some .int) (hlocks : meth.locks = false) (h : some (v, S) = some (r, S')) (hc1 : cells ≤ mcA) (hc2 : slots ≤ msA) (hW : Wd D cl tys b S s H locs) (hdg : decode cc pc = .ok (.ireturn, 1)) : W p l e R s m args below meth c H locs cells slots (MQ below (va_Qi (fun x (_ : Unit) => x = r) (fun _ => Wp D cl tys b S') (fun q => b ≤ q)) args s mcA msA (fun q => b ≤ q)) (F0 m pc ls [.int v]) := by
  cases h
  exact W.widen hc1 hc2 (W.iret hexec hb hr (fun t ht hWm => ⟨⟨v, (), rfl, rfl, hW.out ht hWm⟩, hW.2.2.2.F ht⟩) hW.2.2.2.2.2 hdg hlocks)
theorem hq_zret {mcA msA : Nat} {v r : Int32} (hexec : p.tables.exec = Jvm.exec) (hb : c.code = cc) (hr : meth.sig.returnType = some .boolean) (hlocks : meth.locks = false) (hz : v = 0 ∨ v = 1) (h : some (v, S) = some (r, S')) (hc1 : cells ≤ mcA) (hc2 : slots ≤ msA) (hW : Wd D cl tys b S s H locs) (hdg : decode cc pc = .ok (.ireturn, 1)) : W p l e R s m args below meth c H locs cells slots (MQ below (va_Qi (fun x (_ : Unit) => x = r) (fun _ => Wp D cl tys b S') (fun q => b ≤ q)) args s mcA msA (fun q => b ≤ q)) (F0 m pc ls [.int v]) := by
  cases h
  exact W.widen hc1 hc2 (W.zret hexec hb hr (bz_nar hz) (fun t ht hWm => ⟨⟨v, (), rfl, rfl, hW.out ht hWm⟩, hW.2.2.2.F ht⟩) hW.2.2.2.2.2 hdg hlocks)
theorem hq_lret {mcA msA : Nat} {v r : Int64} (hexec : p.tables.exec = Jvm.exec) (hb : c.code = cc) (hr : meth.sig.returnType = some .long) (hlocks : meth.locks = false) (h : some (v, S) = some (r, S')) (hc1 : cells ≤ mcA) (hc2 : slots ≤ msA) (hW : Wd D cl tys b S s H locs) (hdg : decode cc pc = .ok (.lreturn, 1)) : W p l e R s m args below meth c H locs cells slots (MQ below (va_Ql (fun x (_ : Unit) => x = r) (fun _ => Wp D cl tys b S') (fun q => b ≤ q)) args s mcA msA (fun q => b ≤ q)) (F0 m pc ls [.long v]) := by
  cases h
  exact W.widen hc1 hc2 (W.lret hexec hb hr (fun t ht hWm => ⟨⟨v, (), rfl, rfl, hW.out ht hWm⟩, hW.2.2.2.F ht⟩) hW.2.2.2.2.2 hdg hlocks)
theorem hq_vret {mcA msA : Nat} (hexec : p.tables.exec = Jvm.exec) (hb : c.code = cc) (hr : meth.sig.returnType = none) (hlocks : meth.locks = false) (h : some S = some S') (hc1 : cells ≤ mcA) (hc2 : slots ≤ msA) (hW : Wd D cl tys b S s H locs) (hdg : decode cc pc = .ok (.return_, 1)) : W p l e R s m args below meth c H locs cells slots (MQ below (va_Qv (fun _ : Unit => True) (fun _ => Wp D cl tys b S') (fun q => b ≤ q)) args s mcA msA (fun q => b ≤ q)) (F0 m pc ls []) := by
  cases h
  exact W.widen hc1 hc2 (W.vret hexec hb hr (fun t ht hWm => ⟨⟨(), rfl, trivial, hW.out ht hWm⟩, hW.2.2.2.F ht⟩) hW.2.2.2.2.2 hdg hlocks)
theorem hq_aret {mcA msA : Nat} {v r : Option Nat} {rt : FieldType} (hexec : p.tables.exec = Jvm.exec) (hb : c.code = cc) (hr : meth.sig.returnType = some rt) (hlocks : meth.locks = false) (hrt : (∃ n, rt = .object n) ∨ ∃ t, rt = .array t) (h : some (v, S) = some (r, S')) (hc1 : cells ≤ mcA) (hc2 : slots ≤ msA) (hW : Wd D cl tys b S s H locs) (hdg : decode cc pc = .ok (.areturn, 1)) : W p l e R s m args below meth c H locs cells slots (MQ below (va_Qq (fun x (_ : Unit) => x = r) (fun _ => Wp D cl tys b S') (fun q => b ≤ q)) args s mcA msA (fun q => b ≤ q)) (F0 m pc ls [va_rf v]) := by
  cases h
  exact W.widen hc1 hc2 (W.aret hexec hb hr hrt (va_rf_or v) (fun t ht hWm => ⟨⟨v, (), rfl, rfl, hW.out ht hWm⟩, hW.2.2.2.F ht⟩) hW.2.2.2.2.2 hdg hlocks)
/-- references that may be null -/
theorem hq_aload_n (hexec : p.tables.exec = Jvm.exec) (hb : c.code = cc) {k : Fin 4} {i : Nat} {x : Option Nat} (hdg : decode cc pc = .ok (.aload_n k, 1)) (hi : (k : Nat) = i) (hl : ls[i]? = some (.val (va_rf x))) (kk : W p l e R s m args below meth c H locs cells slots Q (F0 m (pc + 1) ls (va_rf x :: rest))) : W p l e R s m args below meth c H locs cells slots Q (F0 m pc ls rest) := by
  cases x with
  | none => exact lv_aload_nN hexec hb hdg hi hl kk
  | some a => exact lv_aload_n hexec hb hdg hi hl kk
theorem hq_aload (hexec : p.tables.exec = Jvm.exec) (hb : c.code = cc) {i : Nat} {x : Option Nat} (hdg : decode cc pc = .ok (.aload i, 2)) (hl : ls[i]? = some (.val (va_rf x))) (kk : W p l e R s m args below meth c H locs cells slots Q (F0 m (pc + 2) ls (va_rf x :: rest))) : W p l e R s m args below meth c H locs cells slots Q (F0 m pc ls rest) := by
  cases x with
  | none => exact lv_aloadN hexec hb hdg hl kk
  | some a => exact lv_aload hexec hb hdg hl kk
theorem hq_astore_n (hexec : p.tables.exec = Jvm.exec) (hb : c.code = cc) {k : Fin 4} {i nL : Nat} {x : Option Nat} {lv lv' : List (Nat × Value)} (hdg : decode cc pc = .ok (.astore_n k, 1)) (hi : (k : Nat) = i) (h : lv_has ls nL lv) (hn : i < nL) (hl : (i, va_rf x) :: lv.filter (fun q => !(q.1 == i) && !(q.1 + 1 == i && q.2.category == 2)) = lv') (kk : ∀ ls' : Array Slot, lv_has ls' nL lv' → W p l e R s m args below meth c H locs cells slots Q (F0 m (pc + 1) ls' rest)) : W p l e R s m args below meth c H locs cells slots Q (F0 m pc ls (va_rf x :: rest)) := by
  cases x with
  | none => exact lv_astore_nN hexec hb hdg hi h hn hl kk
  | some a => exact lv_astore_n hexec hb hdg hi h hn hl kk
theorem hq_astore (hexec : p.tables.exec = Jvm.exec) (hb : c.code = cc) {i nL : Nat} {x : Option Nat} {lv lv' : List (Nat × Value)} (hdg : decode cc pc = .ok (.astore i, 2)) (h : lv_has ls nL lv) (hn : i < nL) (hl : (i, va_rf x) :: lv.filter (fun q => !(q.1 == i) && !(q.1 + 1 == i && q.2.category == 2)) = lv') (kk : ∀ ls' : Array Slot, lv_has ls' nL lv' → W p l e R s m args below meth c H locs cells slots Q (F0 m (pc + 2) ls' rest)) : W p l e R s m args below meth c H locs cells slots Q (F0 m pc ls (va_rf x :: rest)) := by
  cases x with
  | none => exact lv_astoreN hexec hb hdg h hn hl kk
  | some a => exact lv_astore hexec hb hdg h hn hl kk
theorem hq_ifnull (hexec : p.tables.exec = Jvm.exec) (hb : c.code = cc) {x : Option Nat} {off : Int} {tgt : Nat} (hdg : decode cc pc = .ok (.ifnull off, 3)) (ht : (pc : Int) + off = (tgt : Int)) (kn : x = none → W p l e R s m args below meth c H locs cells slots Q (F0 m tgt ls rest)) (ks : ∀ y, x = some y → W p l e R s m args below meth c H locs cells slots Q (F0 m (pc + 3) ls rest)) : W p l e R s m args below meth c H locs cells slots Q (F0 m pc ls (va_rf x :: rest)) := by
  cases x with
  | none => exact lv_ifnullN hexec hb hdg ht (kn rfl)
  | some a => exact lv_ifnull hexec hb hdg (ks a rfl)
theorem hq_ifnonnull (hexec : p.tables.exec = Jvm.exec) (hb : c.code = cc) {x : Option Nat} {off : Int} {tgt : Nat} (hdg : decode cc pc = .ok (.ifnonnull off, 3)) (ht : (pc : Int) + off = (tgt : Int)) (kn : x = none → W p l e R s m args below meth c H locs cells slots Q (F0 m (pc + 3) ls rest)) (ks : ∀ y, x = some y → W p l e R s m args below meth c H locs cells slots Q (F0 m tgt ls rest)) : W p l e R s m args below meth c H locs cells slots Q (F0 m pc ls (va_rf x :: rest)) := by
  cases x with
  | none => exact lv_ifnonnullN hexec hb hdg (kn rfl)
  | some a => exact lv_ifnonnull hexec hb hdg ht (ks a rfl)
end HQ
