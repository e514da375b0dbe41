/-! The world as a typed memory. Offsets from b on: 0 the plant, 1 Slave[6], 2+5i a slave (then its four tables), 32 Line[2], 33+8j a line (way, frame, bytes, way, frame, bytes, queue), 49 Request[64], 50 Poll[4], 51 the history (52 times, 53 points, 54 words, 55 latest), 56 the model, 57.. its arrays, 92.. requests and polls as they are made. -/
abbrev Xs : Type := (Nat → Nat → Int32) × (Nat → Nat → Option Nat) × (Nat → Nat → Int64) × Nat × (Nat → Nat)
def Xs.I (X : Xs) : Nat → Nat → Int32 := X.1
def Xs.R (X : Xs) : Nat → Nat → Option Nat := X.2.1
def Xs.J (X : Xs) : Nat → Nat → Int64 := X.2.2.1
def Xs.n (X : Xs) : Nat := X.2.2.2.1
def Xs.K (X : Xs) : Nat → Nat := X.2.2.2.2
def up2 {α : Type} (f : Nat → Nat → α) (o k : Nat) (v : α) : Nat → Nat → α := fun p q => if p = o ∧ q = k then v else f p q
def Xs.sI (X : Xs) (o k : Nat) (v : Int32) : Xs := (up2 X.I o k v, X.R, X.J, X.n, X.K)
def Xs.sR (X : Xs) (o k : Nat) (v : Option Nat) : Xs := (X.I, up2 X.R o k v, X.J, X.n, X.K)
def Xs.sJ (X : Xs) (o k : Nat) (v : Int64) : Xs := (X.I, X.R, up2 X.J o k v, X.n, X.K)
theorem up2_s {α : Type} {f : Nat → Nat → α} {o k : Nat} {v : α} : up2 f o k v o k = v := by simp [up2]
theorem up2_o {α : Type} {f : Nat → Nat → α} {o k p q : Nat} {v : α} (h : p ≠ o) : up2 f o k v p q = f p q := by simp [up2, h]
theorem up2_k {α : Type} {f : Nat → Nat → α} {o k p q : Nat} {v : α} (h : q ≠ k) : up2 f o k v p q = f p q := by simp [up2, h]

def tblX (b : Nat) (i : Nat → Int32) (r : Nat → Option Nat) (j : Nat → Int64) : List Cel := [
  .inr (7, [.ref (b + 1), .ref (b + 32), .ref (b + 49), .ref (b + 50), .ref (b + 51), .int (i 5), .int (i 6), .int (i 7)]),
  .inl (3, 6, .inr (.inr (fun k => if k < 6 then some (b + (2 + 5 * k)) else none))),
  .inr (5, [.int (i 0), .ref (b + 3), .ref (b + 4), .ref (b + 5), .ref (b + 6), .int (i 5), .int (i 6), .int (i 7), .int (i 8)]),
  .inl (0, 16, .inl i),
  .inl (0, 16, .inl i),
  .inl (0, 8, .inl i),
  .inl (0, 8, .inl i),
  .inr (5, [.int (i 0), .ref (b + 8), .ref (b + 9), .ref (b + 10), .ref (b + 11), .int (i 5), .int (i 6), .int (i 7), .int (i 8)]),
  .inl (0, 16, .inl i),
  .inl (0, 16, .inl i),
  .inl (0, 8, .inl i),
  .inl (0, 8, .inl i),
  .inr (5, [.int (i 0), .ref (b + 13), .ref (b + 14), .ref (b + 15), .ref (b + 16), .int (i 5), .int (i 6), .int (i 7), .int (i 8)]),
  .inl (0, 16, .inl i),
  .inl (0, 16, .inl i),
  .inl (0, 8, .inl i),
  .inl (0, 8, .inl i),
  .inr (5, [.int (i 0), .ref (b + 18), .ref (b + 19), .ref (b + 20), .ref (b + 21), .int (i 5), .int (i 6), .int (i 7), .int (i 8)]),
  .inl (0, 16, .inl i),
  .inl (0, 16, .inl i),
  .inl (0, 8, .inl i),
  .inl (0, 8, .inl i),
  .inr (5, [.int (i 0), .ref (b + 23), .ref (b + 24), .ref (b + 25), .ref (b + 26), .int (i 5), .int (i 6), .int (i 7), .int (i 8)]),
  .inl (0, 16, .inl i),
  .inl (0, 16, .inl i),
  .inl (0, 8, .inl i),
  .inl (0, 8, .inl i),
  .inr (5, [.int (i 0), .ref (b + 28), .ref (b + 29), .ref (b + 30), .ref (b + 31), .int (i 5), .int (i 6), .int (i 7), .int (i 8)]),
  .inl (0, 16, .inl i),
  .inl (0, 16, .inl i),
  .inl (0, 8, .inl i),
  .inl (0, 8, .inl i),
  .inl (4, 2, .inr (.inr (fun k => if k < 2 then some (b + (33 + 8 * k)) else none))),
  .inr (2, [.int (i 0), .ref (b + 34), .ref (b + 37), .ref (b + 40), .int (i 4), va_rf (r 5), .int (i 6), .int (i 7), .int (i 8)]),
  .inr (6, [.ref (b + 35), .int (i 1)]),
  .inr (0, [.ref (b + 36), .int (i 1)]),
  .inl (0, 41, .inl i),
  .inr (6, [.ref (b + 38), .int (i 1)]),
  .inr (0, [.ref (b + 39), .int (i 1)]),
  .inl (0, 41, .inl i),
  .inl (7, 4, .inr (.inr r)),
  .inr (2, [.int (i 0), .ref (b + 42), .ref (b + 45), .ref (b + 48), .int (i 4), va_rf (r 5), .int (i 6), .int (i 7), .int (i 8)]),
  .inr (6, [.ref (b + 43), .int (i 1)]),
  .inr (0, [.ref (b + 44), .int (i 1)]),
  .inl (0, 41, .inl i),
  .inr (6, [.ref (b + 46), .int (i 1)]),
  .inr (0, [.ref (b + 47), .int (i 1)]),
  .inl (0, 41, .inl i),
  .inl (7, 4, .inr (.inr r)),
  .inl (5, 64, .inr (.inr r)),
  .inl (6, 4, .inr (.inr r)),
  .inr (1, [.ref (b + 52), .ref (b + 53), .ref (b + 54), .ref (b + 55), .int (i 4), .int (i 5)]),
  .inl (0, 12, .inl i),
  .inl (0, 12, .inl i),
  .inl (0, 12, .inl i),
  .inl (0, 4, .inl i),
  .inr (8, [.int (i 0), .ref (b + 57), .ref (b + 58), .ref (b + 59), .ref (b + 60), .ref (b + 61), .ref (b + 62), .ref (b + 63), .ref (b + 64), .ref (b + 65), .int (i 10), .ref (b + 66), .ref (b + 67), .ref (b + 68), .ref (b + 69), .ref (b + 70), .ref (b + 71), .ref (b + 72), .ref (b + 73), .int (i 19), .ref (b + 74), .ref (b + 75), .ref (b + 76), .ref (b + 77), .ref (b + 78), .int (i 25), .ref (b + 79), .ref (b + 80), .ref (b + 81), .ref (b + 82), .ref (b + 83), .ref (b + 84), .ref (b + 85), .ref (b + 86), .ref (b + 87), .ref (b + 88), .ref (b + 89), .ref (b + 90), .ref (b + 91), .int (i 39), .long (j 40)]),
  .inl (1, 7, .inl i),
  .inl (0, 7, .inl i),
  .inl (0, 7, .inl i),
  .inl (1, 7, .inl i),
  .inl (1, 7, .inl i),
  .inl (0, 112, .inl i),
  .inl (0, 112, .inl i),
  .inl (0, 56, .inl i),
  .inl (0, 56, .inl i),
  .inl (0, 64, .inl i),
  .inl (0, 64, .inl i),
  .inl (0, 64, .inl i),
  .inl (0, 64, .inl i),
  .inl (2, 64, .inr (.inl j)),
  .inl (0, 64, .inl i),
  .inl (0, 64, .inl i),
  .inl (2, 64, .inr (.inl j)),
  .inl (0, 4, .inl i),
  .inl (0, 4, .inl i),
  .inl (0, 4, .inl i),
  .inl (1, 4, .inl i),
  .inl (0, 4, .inl i),
  .inl (0, 36, .inl i),
  .inl (0, 8, .inl i),
  .inl (0, 2, .inl i),
  .inl (0, 2, .inl i),
  .inl (0, 2, .inl i),
  .inl (0, 2, .inl i),
  .inl (0, 2, .inl i),
  .inl (0, 2, .inl i),
  .inl (2, 2, .inr (.inl j)),
  .inl (1, 2, .inl i),
  .inl (1, 2, .inl i),
  .inl (0, 192, .inl i),
  .inl (0, 4, .inl i)]
def jobX (b : Nat) (i : Nat → Int32) (j : Nat → Int64) (k : Nat) : Cel := if k = 3 then .inr (3, [.int (i 0), .int (i 1), .int (i 2), .int (i 3), .int (i 4), .long (j 5), .int (i 6), .ref (b + 51)]) else .inr (4, [.int (i 0), .int (i 1), .int (i 2), .int (i 3), .int (i 4), .long (j 5), .int (i 6), .int (i 7), .long (j 8)])
def cel (b : Nat) (X : Xs) (o : Nat) : Cel := if o < 92 then (tblX b (X.I o) (X.R o) (X.J o)).getD o (.inr (0, [])) else jobX b (X.I o) (X.J o) (X.K o)
def wX (b : Nat) (X : Xs) : Ws := (b + (92 + X.n), fun a => if a < b then none else if a < b + (92 + X.n) then some (cel b X (a - b)) else none)
theorem wX_at {b : Nat} {X : Xs} {o : Nat} (h : o < 92 + X.n) : (wX b X).2 (b + o) = some (cel b X o) := by
  show (if b + o < b then none else if b + o < b + (92 + X.n) then some (cel b X (b + o - b)) else none) = _
  rw [if_neg (by omega), if_pos (by omega), show b + o - b = o by omega]
theorem cel_congr {b : Nat} {X Y : Xs} {o : Nat} (h1 : X.I o = Y.I o) (h2 : X.R o = Y.R o) (h3 : X.J o = Y.J o) (h4 : X.K o = Y.K o) : cel b X o = cel b Y o := by
  unfold cel
  rw [h1, h2, h3, h4]
theorem wX_up {b : Nat} {X Y : Xs} {o : Nat} {c : Cel} (ho : o < 92 + X.n) (hn : Y.n = X.n) (hc : cel b Y o = c) (hI : ∀ p, p ≠ o → Y.I p = X.I p) (hR : ∀ p, p ≠ o → Y.R p = X.R p) (hJ : ∀ p, p ≠ o → Y.J p = X.J p) (hK : Y.K = X.K) : (wX b X).up (b + o) c = wX b Y := by
  unfold Ws.up wX
  rw [hn]
  refine Prod.ext rfl ?_
  funext a
  show va_up _ (b + o) (some c) a = _
  by_cases ha : a = b + o
  · subst ha
    rw [va_up_self]
    show _ = (if b + o < b then none else if b + o < b + (92 + X.n) then some (cel b Y (b + o - b)) else none)
    rw [if_neg (by omega), if_pos (by omega), show b + o - b = o by omega, hc]
  · rw [va_up_ne _ _ ha]
    show (if a < b then none else if a < b + (92 + X.n) then some (cel b X (a - b)) else none) = (if a < b then none else if a < b + (92 + X.n) then some (cel b Y (a - b)) else none)
    by_cases h1 : a < b
    · rw [if_pos h1, if_pos h1]
    · have hp : a - b ≠ o := by omega
      rw [if_neg h1, if_neg h1, cel_congr (hI _ hp).symm (hR _ hp).symm (hJ _ hp).symm (by rw [hK])]
theorem up2_row {α : Type} {f : Nat → Nat → α} {o k p : Nat} {v : α} (h : p ≠ o) : up2 f o k v p = f p := by
  funext q
  exact up2_o h
theorem up2_upd {f : Nat → Nat → Int32} {o k : Nat} {v : Int32} : up2 f o k v o = upd (f o) k v := by
  funext q
  simp [up2, upd]
theorem up2_updL {f : Nat → Nat → Int64} {o k : Nat} {v : Int64} : up2 f o k v o = vp_updL (f o) k v := by
  funext q
  simp [up2, vp_updL]
theorem up2_upR {f : Nat → Nat → Option Nat} {o k : Nat} {v : Option Nat} : up2 f o k v o = va_up (f o) k v := by
  funext q
  simp [up2, va_up]
section XM
variable {b : Nat} {X : Xs} {o : Nat}
theorem x_gO {cs : List Nat} {ci : Nat} {fs : List Value} (ho : o < 92 + X.n) (hc : cel b X o = .inr (ci, fs)) (hi : ci ∈ cs) : gO (wX b X) (b + o) cs = some (ci, fs) := gO_of (by rw [wX_at ho, hc]) hi
theorem x_gI {cs : List Nat} {ci k : Nat} {fs : List Value} {x : Int32} (ho : o < 92 + X.n) (hc : cel b X o = .inr (ci, fs)) (hi : ci ∈ cs) (hk : fs[k]? = some (.int x)) : gI (wX b X) (b + o) cs k = some x := gI_of (by rw [wX_at ho, hc]) hi hk
theorem x_gL {cs : List Nat} {ci k : Nat} {fs : List Value} {x : Int64} (ho : o < 92 + X.n) (hc : cel b X o = .inr (ci, fs)) (hi : ci ∈ cs) (hk : fs[k]? = some (.long x)) : gL (wX b X) (b + o) cs k = some x := gL_of (by rw [wX_at ho, hc]) hi hk
theorem x_gR {cs : List Nat} {ci k y : Nat} {fs : List Value} (ho : o < 92 + X.n) (hc : cel b X o = .inr (ci, fs)) (hi : ci ∈ cs) (hk : fs[k]? = some (.ref y)) : gR (wX b X) (b + o) cs k = some (some y) := gR_of (by rw [wX_at ho, hc]) hi hk
theorem x_gQ {cs : List Nat} {ci k : Nat} {fs : List Value} {r : Option Nat} (ho : o < 92 + X.n) (hc : cel b X o = .inr (ci, fs)) (hi : ci ∈ cs) (hk : fs[k]? = some (va_rf r)) : gR (wX b X) (b + o) cs k = some r := by
  cases r with
  | none => exact gR_no (by rw [wX_at ho, hc]) hi hk
  | some a => exact gR_of (by rw [wX_at ho, hc]) hi hk
theorem x_pI {cs : List Nat} {ci k : Nat} {fs : List Value} {x : Int32} (ho : o < 92 + X.n) (hc : cel b X o = .inr (ci, fs)) (hi : ci ∈ cs) (hk : k < fs.length) (hn : cel b (X.sI o k x) o = .inr (ci, fs.set k (.int x))) : pV (wX b X) (b + o) cs k (.int x) = some (wX b (X.sI o k x)) := by
  rw [pV_of (by rw [wX_at ho, hc]) hi hk]
  exact congrArg some (wX_up ho rfl hn (fun p hp => up2_row hp) (fun _ _ => rfl) (fun _ _ => rfl) rfl)
theorem x_pJ {cs : List Nat} {ci k : Nat} {fs : List Value} {x : Int64} (ho : o < 92 + X.n) (hc : cel b X o = .inr (ci, fs)) (hi : ci ∈ cs) (hk : k < fs.length) (hn : cel b (X.sJ o k x) o = .inr (ci, fs.set k (.long x))) : pV (wX b X) (b + o) cs k (.long x) = some (wX b (X.sJ o k x)) := by
  rw [pV_of (by rw [wX_at ho, hc]) hi hk]
  exact congrArg some (wX_up ho rfl hn (fun _ _ => rfl) (fun _ _ => rfl) (fun p hp => up2_row hp) rfl)
theorem x_pR {cs : List Nat} {ci k : Nat} {fs : List Value} {x : Option Nat} (ho : o < 92 + X.n) (hc : cel b X o = .inr (ci, fs)) (hi : ci ∈ cs) (hk : k < fs.length) (hn : cel b (X.sR o k x) o = .inr (ci, fs.set k (va_rf x))) : pV (wX b X) (b + o) cs k (va_rf x) = some (wX b (X.sR o k x)) := by
  rw [pV_of (by rw [wX_at ho, hc]) hi hk]
  exact congrArg some (wX_up ho rfl hn (fun _ _ => rfl) (fun p hp => up2_row hp) (fun _ _ => rfl) rfl)
theorem x_aI {t N : Nat} {i : Int32} {f : Nat → Int32} (ho : o < 92 + X.n) (hc : cel b X o = .inl (t, N, .inl f)) : aI (wX b X) (b + o) t i = (ax i N).bind fun k => some (f k) := by
  simp only [aI, gA_of (show (wX b X).2 (b + o) = some (.inl (t, N, .inl f)) by rw [wX_at ho, hc]), Option.bind_some]
theorem x_aL {t N : Nat} {i : Int32} {f : Nat → Int64} (ho : o < 92 + X.n) (hc : cel b X o = .inl (t, N, .inr (.inl f))) : aL (wX b X) (b + o) t i = (ax i N).bind fun k => some (f k) := by
  simp only [aL, gA_of (show (wX b X).2 (b + o) = some (.inl (t, N, .inr (.inl f))) by rw [wX_at ho, hc]), Option.bind_some]
theorem x_aR {t N : Nat} {i : Int32} {f : Nat → Option Nat} (ho : o < 92 + X.n) (hc : cel b X o = .inl (t, N, .inr (.inr f))) : aR (wX b X) (b + o) t i = (ax i N).bind fun k => some (f k) := by
  simp only [aR, gA_of (show (wX b X).2 (b + o) = some (.inl (t, N, .inr (.inr f))) by rw [wX_at ho, hc]), Option.bind_some]
theorem x_aN {t N : Nat} {q : (Nat → Int32) ⊕ (Nat → Int64) ⊕ (Nat → Option Nat)} (ho : o < 92 + X.n) (hc : cel b X o = .inl (t, N, q)) : aN (wX b X) (b + o) t = some (nI N) := aN_of (by rw [wX_at ho, hc])
theorem x_sI {t N : Nat} {i x : Int32} (ho : o < 92 + X.n) (hc : ∀ Y : Xs, cel b Y o = .inl (t, N, .inl (Y.I o))) : sI (wX b X) (b + o) t i x = (ax i N).bind fun k => some (wX b (X.sI o k x)) := by
  simp only [sI, gA_of (show (wX b X).2 (b + o) = some (.inl (t, N, .inl (X.I o))) by rw [wX_at ho, hc]), Option.bind_some]
  congr 1
  funext k
  refine congrArg some (wX_up ho rfl ?_ (fun p hp => up2_row hp) (fun _ _ => rfl) (fun _ _ => rfl) rfl)
  rw [hc]
  show Sum.inl (t, N, Sum.inl (up2 X.I o k x o)) = _
  rw [up2_upd]
theorem x_sL {t N : Nat} {i : Int32} {x : Int64} (ho : o < 92 + X.n) (hc : ∀ Y : Xs, cel b Y o = .inl (t, N, .inr (.inl (Y.J o)))) : sL (wX b X) (b + o) t i x = (ax i N).bind fun k => some (wX b (X.sJ o k x)) := by
  simp only [sL, gA_of (show (wX b X).2 (b + o) = some (.inl (t, N, .inr (.inl (X.J o)))) by rw [wX_at ho, hc]), Option.bind_some]
  congr 1
  funext k
  refine congrArg some (wX_up ho rfl ?_ (fun _ _ => rfl) (fun _ _ => rfl) (fun p hp => up2_row hp) rfl)
  rw [hc]
  show Sum.inl (t, N, Sum.inr (Sum.inl (up2 X.J o k x o))) = _
  rw [up2_updL]
theorem x_sR {t N : Nat} {i : Int32} {x : Option Nat} (ho : o < 92 + X.n) (hc : ∀ Y : Xs, cel b Y o = .inl (t, N, .inr (.inr (Y.R o)))) : sR (wX b X) (b + o) t i x = (ax i N).bind fun k => some (wX b (X.sR o k x)) := by
  simp only [sR, gA_of (show (wX b X).2 (b + o) = some (.inl (t, N, .inr (.inr (X.R o)))) by rw [wX_at ho, hc]), Option.bind_some]
  congr 1
  funext k
  refine congrArg some (wX_up ho rfl ?_ (fun _ _ => rfl) (fun p hp => up2_row hp) (fun _ _ => rfl) rfl)
  rw [hc]
  show Sum.inl (t, N, Sum.inr (Sum.inr (up2 X.R o k x o))) = _
  rw [up2_upR]

/-! the steps at the places of the world, a row each -/
theorem pl_r0 : gR (wX b X) b [7] 0 = some (some (b + 1)) := x_gR (o := 0) (by omega) rfl (by decide) rfl
theorem pl_r1 : gR (wX b X) b [7] 1 = some (some (b + 32)) := x_gR (o := 0) (by omega) rfl (by decide) rfl
theorem pl_r2 : gR (wX b X) b [7] 2 = some (some (b + 49)) := x_gR (o := 0) (by omega) rfl (by decide) rfl
theorem pl_r3 : gR (wX b X) b [7] 3 = some (some (b + 50)) := x_gR (o := 0) (by omega) rfl (by decide) rfl
theorem pl_r4 : gR (wX b X) b [7] 4 = some (some (b + 51)) := x_gR (o := 0) (by omega) rfl (by decide) rfl
theorem pl_i5 : gI (wX b X) b [7] 5 = some (X.I 0 5) := x_gI (o := 0) (by omega) rfl (by decide) rfl
theorem pl_p5 {x : Int32} : pV (wX b X) b [7] 5 (.int x) = some (wX b (X.sI 0 5 x)) := x_pI (o := 0) (by omega) rfl (by decide) (Nat.le_of_ble_eq_true rfl) rfl
theorem pl_i6 : gI (wX b X) b [7] 6 = some (X.I 0 6) := x_gI (o := 0) (by omega) rfl (by decide) rfl
theorem pl_p6 {x : Int32} : pV (wX b X) b [7] 6 (.int x) = some (wX b (X.sI 0 6 x)) := x_pI (o := 0) (by omega) rfl (by decide) (Nat.le_of_ble_eq_true rfl) rfl
theorem pl_i7 : gI (wX b X) b [7] 7 = some (X.I 0 7) := x_gI (o := 0) (by omega) rfl (by decide) rfl
theorem pl_p7 {x : Int32} : pV (wX b X) b [7] 7 (.int x) = some (wX b (X.sI 0 7 x)) := x_pI (o := 0) (by omega) rfl (by decide) (Nat.le_of_ble_eq_true rfl) rfl
theorem pl_o : ∃ q, gO (wX b X) b [7] = some q := ⟨_, x_gO (o := 0) (by omega) rfl (by decide)⟩
theorem sa_r {i : Int32} : aR (wX b X) (b + 1) 3 i = (ax i 6).bind fun k => some (if k < 6 then some (b + (2 + 5 * k)) else none) := x_aR (o := 1) (by omega) rfl
theorem la_r {i : Int32} : aR (wX b X) (b + 32) 4 i = (ax i 2).bind fun k => some (if k < 2 then some (b + (33 + 8 * k)) else none) := x_aR (o := 32) (by omega) rfl
theorem ra_r {i : Int32} : aR (wX b X) (b + 49) 5 i = (ax i 64).bind fun k => some (X.R 49 k) := x_aR (o := 49) (by omega) rfl
theorem pa_r {i : Int32} : aR (wX b X) (b + 50) 6 i = (ax i 4).bind fun k => some (X.R 50 k) := x_aR (o := 50) (by omega) rfl
theorem ra_s {i : Int32} {x : Option Nat} : sR (wX b X) (b + 49) 5 i x = (ax i 64).bind fun k => some (wX b (X.sR 49 k x)) := x_sR (o := 49) (by omega) (fun _ => rfl)
theorem pa_s {i : Int32} {x : Option Nat} : sR (wX b X) (b + 50) 6 i x = (ax i 4).bind fun k => some (wX b (X.sR 50 k x)) := x_sR (o := 50) (by omega) (fun _ => rfl)
theorem hi_r0 : gR (wX b X) (b + 51) [1] 0 = some (some (b + 52)) := x_gR (by omega) rfl (by decide) rfl
theorem hi_a0 {i : Int32} : aI (wX b X) (b + 52) 0 i = (ax i 12).bind fun k => some (X.I 52 k) := x_aI (by omega) rfl
theorem hi_s0 {i x : Int32} : sI (wX b X) (b + 52) 0 i x = (ax i 12).bind fun k => some (wX b (X.sI 52 k x)) := x_sI (by omega) (fun _ => rfl)
theorem hi_r1 : gR (wX b X) (b + 51) [1] 1 = some (some (b + 53)) := x_gR (by omega) rfl (by decide) rfl
theorem hi_a1 {i : Int32} : aI (wX b X) (b + 53) 0 i = (ax i 12).bind fun k => some (X.I 53 k) := x_aI (by omega) rfl
theorem hi_s1 {i x : Int32} : sI (wX b X) (b + 53) 0 i x = (ax i 12).bind fun k => some (wX b (X.sI 53 k x)) := x_sI (by omega) (fun _ => rfl)
theorem hi_r2 : gR (wX b X) (b + 51) [1] 2 = some (some (b + 54)) := x_gR (by omega) rfl (by decide) rfl
theorem hi_a2 {i : Int32} : aI (wX b X) (b + 54) 0 i = (ax i 12).bind fun k => some (X.I 54 k) := x_aI (by omega) rfl
theorem hi_s2 {i x : Int32} : sI (wX b X) (b + 54) 0 i x = (ax i 12).bind fun k => some (wX b (X.sI 54 k x)) := x_sI (by omega) (fun _ => rfl)
theorem hi_r3 : gR (wX b X) (b + 51) [1] 3 = some (some (b + 55)) := x_gR (by omega) rfl (by decide) rfl
theorem hi_a3 {i : Int32} : aI (wX b X) (b + 55) 0 i = (ax i 4).bind fun k => some (X.I 55 k) := x_aI (by omega) rfl
theorem hi_s3 {i x : Int32} : sI (wX b X) (b + 55) 0 i x = (ax i 4).bind fun k => some (wX b (X.sI 55 k x)) := x_sI (by omega) (fun _ => rfl)
theorem hi_n : aN (wX b X) (b + 55) 0 = some (nI 4) := x_aN (by omega) rfl
theorem hi_i4 : gI (wX b X) (b + 51) [1] 4 = some (X.I 51 4) := x_gI (by omega) rfl (by decide) rfl
theorem hi_p4 {x : Int32} : pV (wX b X) (b + 51) [1] 4 (.int x) = some (wX b (X.sI 51 4 x)) := x_pI (by omega) rfl (by decide) (Nat.le_of_ble_eq_true rfl) rfl
theorem hi_i5 : gI (wX b X) (b + 51) [1] 5 = some (X.I 51 5) := x_gI (by omega) rfl (by decide) rfl
theorem hi_p5 {x : Int32} : pV (wX b X) (b + 51) [1] 5 (.int x) = some (wX b (X.sI 51 5 x)) := x_pI (by omega) rfl (by decide) (Nat.le_of_ble_eq_true rfl) rfl
theorem hi_o : gO (wX b X) (b + 51) [1] = some (1, [.ref (b + 52), .ref (b + 53), .ref (b + 54), .ref (b + 55), .int (X.I 51 4), .int (X.I 51 5)]) := x_gO (by omega) rfl (by decide)
theorem mo_i0 : gI (wX b X) (b + 56) [8] 0 = some (X.I 56 0) := x_gI (by omega) rfl (by decide) rfl
theorem mo_p0 {x : Int32} : pV (wX b X) (b + 56) [8] 0 (.int x) = some (wX b (X.sI 56 0 x)) := x_pI (by omega) rfl (by decide) (Nat.le_of_ble_eq_true rfl) rfl
theorem mo_r1 : gR (wX b X) (b + 56) [8] 1 = some (some (b + 57)) := x_gR (by omega) rfl (by decide) rfl
theorem mo_a57 {i : Int32} : aI (wX b X) (b + 57) 1 i = (ax i 7).bind fun k => some (X.I 57 k) := x_aI (by omega) rfl
theorem mo_s57 {i x : Int32} : sI (wX b X) (b + 57) 1 i x = (ax i 7).bind fun k => some (wX b (X.sI 57 k x)) := x_sI (by omega) (fun _ => rfl)
theorem mo_r2 : gR (wX b X) (b + 56) [8] 2 = some (some (b + 58)) := x_gR (by omega) rfl (by decide) rfl
theorem mo_a58 {i : Int32} : aI (wX b X) (b + 58) 0 i = (ax i 7).bind fun k => some (X.I 58 k) := x_aI (by omega) rfl
theorem mo_s58 {i x : Int32} : sI (wX b X) (b + 58) 0 i x = (ax i 7).bind fun k => some (wX b (X.sI 58 k x)) := x_sI (by omega) (fun _ => rfl)
theorem mo_r3 : gR (wX b X) (b + 56) [8] 3 = some (some (b + 59)) := x_gR (by omega) rfl (by decide) rfl
theorem mo_a59 {i : Int32} : aI (wX b X) (b + 59) 0 i = (ax i 7).bind fun k => some (X.I 59 k) := x_aI (by omega) rfl
theorem mo_s59 {i x : Int32} : sI (wX b X) (b + 59) 0 i x = (ax i 7).bind fun k => some (wX b (X.sI 59 k x)) := x_sI (by omega) (fun _ => rfl)
theorem mo_r4 : gR (wX b X) (b + 56) [8] 4 = some (some (b + 60)) := x_gR (by omega) rfl (by decide) rfl
theorem mo_a60 {i : Int32} : aI (wX b X) (b + 60) 1 i = (ax i 7).bind fun k => some (X.I 60 k) := x_aI (by omega) rfl
theorem mo_s60 {i x : Int32} : sI (wX b X) (b + 60) 1 i x = (ax i 7).bind fun k => some (wX b (X.sI 60 k x)) := x_sI (by omega) (fun _ => rfl)
theorem mo_r5 : gR (wX b X) (b + 56) [8] 5 = some (some (b + 61)) := x_gR (by omega) rfl (by decide) rfl
theorem mo_a61 {i : Int32} : aI (wX b X) (b + 61) 1 i = (ax i 7).bind fun k => some (X.I 61 k) := x_aI (by omega) rfl
theorem mo_s61 {i x : Int32} : sI (wX b X) (b + 61) 1 i x = (ax i 7).bind fun k => some (wX b (X.sI 61 k x)) := x_sI (by omega) (fun _ => rfl)
theorem mo_r6 : gR (wX b X) (b + 56) [8] 6 = some (some (b + 62)) := x_gR (by omega) rfl (by decide) rfl
theorem mo_a62 {i : Int32} : aI (wX b X) (b + 62) 0 i = (ax i 112).bind fun k => some (X.I 62 k) := x_aI (by omega) rfl
theorem mo_s62 {i x : Int32} : sI (wX b X) (b + 62) 0 i x = (ax i 112).bind fun k => some (wX b (X.sI 62 k x)) := x_sI (by omega) (fun _ => rfl)
theorem mo_r7 : gR (wX b X) (b + 56) [8] 7 = some (some (b + 63)) := x_gR (by omega) rfl (by decide) rfl
theorem mo_a63 {i : Int32} : aI (wX b X) (b + 63) 0 i = (ax i 112).bind fun k => some (X.I 63 k) := x_aI (by omega) rfl
theorem mo_s63 {i x : Int32} : sI (wX b X) (b + 63) 0 i x = (ax i 112).bind fun k => some (wX b (X.sI 63 k x)) := x_sI (by omega) (fun _ => rfl)
theorem mo_r8 : gR (wX b X) (b + 56) [8] 8 = some (some (b + 64)) := x_gR (by omega) rfl (by decide) rfl
theorem mo_a64 {i : Int32} : aI (wX b X) (b + 64) 0 i = (ax i 56).bind fun k => some (X.I 64 k) := x_aI (by omega) rfl
theorem mo_s64 {i x : Int32} : sI (wX b X) (b + 64) 0 i x = (ax i 56).bind fun k => some (wX b (X.sI 64 k x)) := x_sI (by omega) (fun _ => rfl)
theorem mo_r9 : gR (wX b X) (b + 56) [8] 9 = some (some (b + 65)) := x_gR (by omega) rfl (by decide) rfl
theorem mo_a65 {i : Int32} : aI (wX b X) (b + 65) 0 i = (ax i 56).bind fun k => some (X.I 65 k) := x_aI (by omega) rfl
theorem mo_s65 {i x : Int32} : sI (wX b X) (b + 65) 0 i x = (ax i 56).bind fun k => some (wX b (X.sI 65 k x)) := x_sI (by omega) (fun _ => rfl)
theorem mo_i10 : gI (wX b X) (b + 56) [8] 10 = some (X.I 56 10) := x_gI (by omega) rfl (by decide) rfl
theorem mo_p10 {x : Int32} : pV (wX b X) (b + 56) [8] 10 (.int x) = some (wX b (X.sI 56 10 x)) := x_pI (by omega) rfl (by decide) (Nat.le_of_ble_eq_true rfl) rfl
theorem mo_r11 : gR (wX b X) (b + 56) [8] 11 = some (some (b + 66)) := x_gR (by omega) rfl (by decide) rfl
theorem mo_a66 {i : Int32} : aI (wX b X) (b + 66) 0 i = (ax i 64).bind fun k => some (X.I 66 k) := x_aI (by omega) rfl
theorem mo_s66 {i x : Int32} : sI (wX b X) (b + 66) 0 i x = (ax i 64).bind fun k => some (wX b (X.sI 66 k x)) := x_sI (by omega) (fun _ => rfl)
theorem mo_r12 : gR (wX b X) (b + 56) [8] 12 = some (some (b + 67)) := x_gR (by omega) rfl (by decide) rfl
theorem mo_a67 {i : Int32} : aI (wX b X) (b + 67) 0 i = (ax i 64).bind fun k => some (X.I 67 k) := x_aI (by omega) rfl
theorem mo_s67 {i x : Int32} : sI (wX b X) (b + 67) 0 i x = (ax i 64).bind fun k => some (wX b (X.sI 67 k x)) := x_sI (by omega) (fun _ => rfl)
theorem mo_r13 : gR (wX b X) (b + 56) [8] 13 = some (some (b + 68)) := x_gR (by omega) rfl (by decide) rfl
theorem mo_a68 {i : Int32} : aI (wX b X) (b + 68) 0 i = (ax i 64).bind fun k => some (X.I 68 k) := x_aI (by omega) rfl
theorem mo_s68 {i x : Int32} : sI (wX b X) (b + 68) 0 i x = (ax i 64).bind fun k => some (wX b (X.sI 68 k x)) := x_sI (by omega) (fun _ => rfl)
theorem mo_r14 : gR (wX b X) (b + 56) [8] 14 = some (some (b + 69)) := x_gR (by omega) rfl (by decide) rfl
theorem mo_a69 {i : Int32} : aI (wX b X) (b + 69) 0 i = (ax i 64).bind fun k => some (X.I 69 k) := x_aI (by omega) rfl
theorem mo_s69 {i x : Int32} : sI (wX b X) (b + 69) 0 i x = (ax i 64).bind fun k => some (wX b (X.sI 69 k x)) := x_sI (by omega) (fun _ => rfl)
theorem mo_r15 : gR (wX b X) (b + 56) [8] 15 = some (some (b + 70)) := x_gR (by omega) rfl (by decide) rfl
theorem mo_a70 {i : Int32} : aL (wX b X) (b + 70) 2 i = (ax i 64).bind fun k => some (X.J 70 k) := x_aL (by omega) rfl
theorem mo_s70 {i : Int32} {x : Int64} : sL (wX b X) (b + 70) 2 i x = (ax i 64).bind fun k => some (wX b (X.sJ 70 k x)) := x_sL (by omega) (fun _ => rfl)
theorem mo_r16 : gR (wX b X) (b + 56) [8] 16 = some (some (b + 71)) := x_gR (by omega) rfl (by decide) rfl
theorem mo_a71 {i : Int32} : aI (wX b X) (b + 71) 0 i = (ax i 64).bind fun k => some (X.I 71 k) := x_aI (by omega) rfl
theorem mo_s71 {i x : Int32} : sI (wX b X) (b + 71) 0 i x = (ax i 64).bind fun k => some (wX b (X.sI 71 k x)) := x_sI (by omega) (fun _ => rfl)
theorem mo_r17 : gR (wX b X) (b + 56) [8] 17 = some (some (b + 72)) := x_gR (by omega) rfl (by decide) rfl
theorem mo_a72 {i : Int32} : aI (wX b X) (b + 72) 0 i = (ax i 64).bind fun k => some (X.I 72 k) := x_aI (by omega) rfl
theorem mo_s72 {i x : Int32} : sI (wX b X) (b + 72) 0 i x = (ax i 64).bind fun k => some (wX b (X.sI 72 k x)) := x_sI (by omega) (fun _ => rfl)
theorem mo_r18 : gR (wX b X) (b + 56) [8] 18 = some (some (b + 73)) := x_gR (by omega) rfl (by decide) rfl
theorem mo_a73 {i : Int32} : aL (wX b X) (b + 73) 2 i = (ax i 64).bind fun k => some (X.J 73 k) := x_aL (by omega) rfl
theorem mo_s73 {i : Int32} {x : Int64} : sL (wX b X) (b + 73) 2 i x = (ax i 64).bind fun k => some (wX b (X.sJ 73 k x)) := x_sL (by omega) (fun _ => rfl)
theorem mo_i19 : gI (wX b X) (b + 56) [8] 19 = some (X.I 56 19) := x_gI (by omega) rfl (by decide) rfl
theorem mo_p19 {x : Int32} : pV (wX b X) (b + 56) [8] 19 (.int x) = some (wX b (X.sI 56 19 x)) := x_pI (by omega) rfl (by decide) (Nat.le_of_ble_eq_true rfl) rfl
theorem mo_r20 : gR (wX b X) (b + 56) [8] 20 = some (some (b + 74)) := x_gR (by omega) rfl (by decide) rfl
theorem mo_a74 {i : Int32} : aI (wX b X) (b + 74) 0 i = (ax i 4).bind fun k => some (X.I 74 k) := x_aI (by omega) rfl
theorem mo_s74 {i x : Int32} : sI (wX b X) (b + 74) 0 i x = (ax i 4).bind fun k => some (wX b (X.sI 74 k x)) := x_sI (by omega) (fun _ => rfl)
theorem mo_r21 : gR (wX b X) (b + 56) [8] 21 = some (some (b + 75)) := x_gR (by omega) rfl (by decide) rfl
theorem mo_a75 {i : Int32} : aI (wX b X) (b + 75) 0 i = (ax i 4).bind fun k => some (X.I 75 k) := x_aI (by omega) rfl
theorem mo_s75 {i x : Int32} : sI (wX b X) (b + 75) 0 i x = (ax i 4).bind fun k => some (wX b (X.sI 75 k x)) := x_sI (by omega) (fun _ => rfl)
theorem mo_r22 : gR (wX b X) (b + 56) [8] 22 = some (some (b + 76)) := x_gR (by omega) rfl (by decide) rfl
theorem mo_a76 {i : Int32} : aI (wX b X) (b + 76) 0 i = (ax i 4).bind fun k => some (X.I 76 k) := x_aI (by omega) rfl
theorem mo_s76 {i x : Int32} : sI (wX b X) (b + 76) 0 i x = (ax i 4).bind fun k => some (wX b (X.sI 76 k x)) := x_sI (by omega) (fun _ => rfl)
theorem mo_r23 : gR (wX b X) (b + 56) [8] 23 = some (some (b + 77)) := x_gR (by omega) rfl (by decide) rfl
theorem mo_a77 {i : Int32} : aI (wX b X) (b + 77) 1 i = (ax i 4).bind fun k => some (X.I 77 k) := x_aI (by omega) rfl
theorem mo_s77 {i x : Int32} : sI (wX b X) (b + 77) 1 i x = (ax i 4).bind fun k => some (wX b (X.sI 77 k x)) := x_sI (by omega) (fun _ => rfl)
theorem mo_r24 : gR (wX b X) (b + 56) [8] 24 = some (some (b + 78)) := x_gR (by omega) rfl (by decide) rfl
theorem mo_a78 {i : Int32} : aI (wX b X) (b + 78) 0 i = (ax i 4).bind fun k => some (X.I 78 k) := x_aI (by omega) rfl
theorem mo_s78 {i x : Int32} : sI (wX b X) (b + 78) 0 i x = (ax i 4).bind fun k => some (wX b (X.sI 78 k x)) := x_sI (by omega) (fun _ => rfl)
theorem mo_i25 : gI (wX b X) (b + 56) [8] 25 = some (X.I 56 25) := x_gI (by omega) rfl (by decide) rfl
theorem mo_p25 {x : Int32} : pV (wX b X) (b + 56) [8] 25 (.int x) = some (wX b (X.sI 56 25 x)) := x_pI (by omega) rfl (by decide) (Nat.le_of_ble_eq_true rfl) rfl
theorem mo_r26 : gR (wX b X) (b + 56) [8] 26 = some (some (b + 79)) := x_gR (by omega) rfl (by decide) rfl
theorem mo_a79 {i : Int32} : aI (wX b X) (b + 79) 0 i = (ax i 36).bind fun k => some (X.I 79 k) := x_aI (by omega) rfl
theorem mo_s79 {i x : Int32} : sI (wX b X) (b + 79) 0 i x = (ax i 36).bind fun k => some (wX b (X.sI 79 k x)) := x_sI (by omega) (fun _ => rfl)
theorem mo_r27 : gR (wX b X) (b + 56) [8] 27 = some (some (b + 80)) := x_gR (by omega) rfl (by decide) rfl
theorem mo_a80 {i : Int32} : aI (wX b X) (b + 80) 0 i = (ax i 8).bind fun k => some (X.I 80 k) := x_aI (by omega) rfl
theorem mo_s80 {i x : Int32} : sI (wX b X) (b + 80) 0 i x = (ax i 8).bind fun k => some (wX b (X.sI 80 k x)) := x_sI (by omega) (fun _ => rfl)
theorem mo_r28 : gR (wX b X) (b + 56) [8] 28 = some (some (b + 81)) := x_gR (by omega) rfl (by decide) rfl
theorem mo_a81 {i : Int32} : aI (wX b X) (b + 81) 0 i = (ax i 2).bind fun k => some (X.I 81 k) := x_aI (by omega) rfl
theorem mo_s81 {i x : Int32} : sI (wX b X) (b + 81) 0 i x = (ax i 2).bind fun k => some (wX b (X.sI 81 k x)) := x_sI (by omega) (fun _ => rfl)
theorem mo_r29 : gR (wX b X) (b + 56) [8] 29 = some (some (b + 82)) := x_gR (by omega) rfl (by decide) rfl
theorem mo_a82 {i : Int32} : aI (wX b X) (b + 82) 0 i = (ax i 2).bind fun k => some (X.I 82 k) := x_aI (by omega) rfl
theorem mo_s82 {i x : Int32} : sI (wX b X) (b + 82) 0 i x = (ax i 2).bind fun k => some (wX b (X.sI 82 k x)) := x_sI (by omega) (fun _ => rfl)
theorem mo_r30 : gR (wX b X) (b + 56) [8] 30 = some (some (b + 83)) := x_gR (by omega) rfl (by decide) rfl
theorem mo_a83 {i : Int32} : aI (wX b X) (b + 83) 0 i = (ax i 2).bind fun k => some (X.I 83 k) := x_aI (by omega) rfl
theorem mo_s83 {i x : Int32} : sI (wX b X) (b + 83) 0 i x = (ax i 2).bind fun k => some (wX b (X.sI 83 k x)) := x_sI (by omega) (fun _ => rfl)
theorem mo_r31 : gR (wX b X) (b + 56) [8] 31 = some (some (b + 84)) := x_gR (by omega) rfl (by decide) rfl
theorem mo_a84 {i : Int32} : aI (wX b X) (b + 84) 0 i = (ax i 2).bind fun k => some (X.I 84 k) := x_aI (by omega) rfl
theorem mo_s84 {i x : Int32} : sI (wX b X) (b + 84) 0 i x = (ax i 2).bind fun k => some (wX b (X.sI 84 k x)) := x_sI (by omega) (fun _ => rfl)
theorem mo_r32 : gR (wX b X) (b + 56) [8] 32 = some (some (b + 85)) := x_gR (by omega) rfl (by decide) rfl
theorem mo_a85 {i : Int32} : aI (wX b X) (b + 85) 0 i = (ax i 2).bind fun k => some (X.I 85 k) := x_aI (by omega) rfl
theorem mo_s85 {i x : Int32} : sI (wX b X) (b + 85) 0 i x = (ax i 2).bind fun k => some (wX b (X.sI 85 k x)) := x_sI (by omega) (fun _ => rfl)
theorem mo_r33 : gR (wX b X) (b + 56) [8] 33 = some (some (b + 86)) := x_gR (by omega) rfl (by decide) rfl
theorem mo_a86 {i : Int32} : aI (wX b X) (b + 86) 0 i = (ax i 2).bind fun k => some (X.I 86 k) := x_aI (by omega) rfl
theorem mo_s86 {i x : Int32} : sI (wX b X) (b + 86) 0 i x = (ax i 2).bind fun k => some (wX b (X.sI 86 k x)) := x_sI (by omega) (fun _ => rfl)
theorem mo_r34 : gR (wX b X) (b + 56) [8] 34 = some (some (b + 87)) := x_gR (by omega) rfl (by decide) rfl
theorem mo_a87 {i : Int32} : aL (wX b X) (b + 87) 2 i = (ax i 2).bind fun k => some (X.J 87 k) := x_aL (by omega) rfl
theorem mo_s87 {i : Int32} {x : Int64} : sL (wX b X) (b + 87) 2 i x = (ax i 2).bind fun k => some (wX b (X.sJ 87 k x)) := x_sL (by omega) (fun _ => rfl)
theorem mo_r35 : gR (wX b X) (b + 56) [8] 35 = some (some (b + 88)) := x_gR (by omega) rfl (by decide) rfl
theorem mo_a88 {i : Int32} : aI (wX b X) (b + 88) 1 i = (ax i 2).bind fun k => some (X.I 88 k) := x_aI (by omega) rfl
theorem mo_s88 {i x : Int32} : sI (wX b X) (b + 88) 1 i x = (ax i 2).bind fun k => some (wX b (X.sI 88 k x)) := x_sI (by omega) (fun _ => rfl)
theorem mo_r36 : gR (wX b X) (b + 56) [8] 36 = some (some (b + 89)) := x_gR (by omega) rfl (by decide) rfl
theorem mo_a89 {i : Int32} : aI (wX b X) (b + 89) 1 i = (ax i 2).bind fun k => some (X.I 89 k) := x_aI (by omega) rfl
theorem mo_s89 {i x : Int32} : sI (wX b X) (b + 89) 1 i x = (ax i 2).bind fun k => some (wX b (X.sI 89 k x)) := x_sI (by omega) (fun _ => rfl)
theorem mo_r37 : gR (wX b X) (b + 56) [8] 37 = some (some (b + 90)) := x_gR (by omega) rfl (by decide) rfl
theorem mo_a90 {i : Int32} : aI (wX b X) (b + 90) 0 i = (ax i 192).bind fun k => some (X.I 90 k) := x_aI (by omega) rfl
theorem mo_s90 {i x : Int32} : sI (wX b X) (b + 90) 0 i x = (ax i 192).bind fun k => some (wX b (X.sI 90 k x)) := x_sI (by omega) (fun _ => rfl)
theorem mo_r38 : gR (wX b X) (b + 56) [8] 38 = some (some (b + 91)) := x_gR (by omega) rfl (by decide) rfl
theorem mo_a91 {i : Int32} : aI (wX b X) (b + 91) 0 i = (ax i 4).bind fun k => some (X.I 91 k) := x_aI (by omega) rfl
theorem mo_s91 {i x : Int32} : sI (wX b X) (b + 91) 0 i x = (ax i 4).bind fun k => some (wX b (X.sI 91 k x)) := x_sI (by omega) (fun _ => rfl)
theorem mo_i39 : gI (wX b X) (b + 56) [8] 39 = some (X.I 56 39) := x_gI (by omega) rfl (by decide) rfl
theorem mo_p39 {x : Int32} : pV (wX b X) (b + 56) [8] 39 (.int x) = some (wX b (X.sI 56 39 x)) := x_pI (by omega) rfl (by decide) (Nat.le_of_ble_eq_true rfl) rfl
theorem mo_i40 : gL (wX b X) (b + 56) [8] 40 = some (X.J 56 40) := x_gL (by omega) rfl (by decide) rfl
theorem mo_p40 {x : Int64} : pV (wX b X) (b + 56) [8] 40 (.long x) = some (wX b (X.sJ 56 40 x)) := x_pJ (by omega) rfl (by decide) (Nat.le_of_ble_eq_true rfl) rfl
def moF (b : Nat) (X : Xs) : List Value := [.int (X.I 56 0), .ref (b + 57), .ref (b + 58), .ref (b + 59), .ref (b + 60), .ref (b + 61), .ref (b + 62), .ref (b + 63), .ref (b + 64), .ref (b + 65), .int (X.I 56 10), .ref (b + 66), .ref (b + 67), .ref (b + 68), .ref (b + 69), .ref (b + 70), .ref (b + 71), .ref (b + 72), .ref (b + 73), .int (X.I 56 19), .ref (b + 74), .ref (b + 75), .ref (b + 76), .ref (b + 77), .ref (b + 78), .int (X.I 56 25), .ref (b + 79), .ref (b + 80), .ref (b + 81), .ref (b + 82), .ref (b + 83), .ref (b + 84), .ref (b + 85), .ref (b + 86), .ref (b + 87), .ref (b + 88), .ref (b + 89), .ref (b + 90), .ref (b + 91), .int (X.I 56 39), .long (X.J 56 40)]
theorem mo_o : gO (wX b X) (b + 56) [8] = some (8, moF b X) := x_gO (by omega) rfl (by decide)
def isFr (o : Nat) : Prop := o = 35 ∨ o = 38 ∨ o = 43 ∨ o = 46
theorem Fr_lt (h : isFr o) : o < 92 + X.n := by
  rcases h with rfl | rfl | rfl | rfl <;> omega
theorem Fr_r0 (h : isFr o) : gR (wX b X) (b + o) [0] 0 = some (some (b + (o + 1))) := by
  rcases h with rfl | rfl | rfl | rfl <;> exact x_gR (by omega) rfl (by decide) rfl
theorem Fr_i1 (h : isFr o) : gI (wX b X) (b + o) [0] 1 = some (X.I o 1) := by
  rcases h with rfl | rfl | rfl | rfl <;> exact x_gI (by omega) rfl (by decide) rfl
theorem Fr_p1 {x : Int32} (h : isFr o) : pV (wX b X) (b + o) [0] 1 (.int x) = some (wX b (X.sI o 1 x)) := by
  rcases h with rfl | rfl | rfl | rfl <;> exact x_pI (by omega) rfl (by decide) (Nat.le_of_ble_eq_true rfl) rfl
theorem Fr_a1 {i : Int32} (h : isFr o) : aI (wX b X) (b + (o + 1)) 0 i = (ax i 41).bind fun k => some (X.I (o + 1) k) := by
  rcases h with rfl | rfl | rfl | rfl <;> exact x_aI (by omega) rfl
theorem Fr_s1 {i x : Int32} (h : isFr o) : sI (wX b X) (b + (o + 1)) 0 i x = (ax i 41).bind fun k => some (wX b (X.sI (o + 1) k x)) := by
  rcases h with rfl | rfl | rfl | rfl <;> exact x_sI (by omega) (fun _ => rfl)
theorem Fr_n1 (h : isFr o) : aN (wX b X) (b + (o + 1)) 0 = some (nI 41) := by
  rcases h with rfl | rfl | rfl | rfl <;> exact x_aN (by omega) rfl
theorem Fr_o (h : isFr o) : ∃ q, gO (wX b X) (b + o) [0] = some q := by
  rcases h with rfl | rfl | rfl | rfl <;> exact ⟨_, x_gO (by omega) rfl (by decide)⟩
def isWa (o : Nat) : Prop := o = 34 ∨ o = 37 ∨ o = 42 ∨ o = 45
theorem Wa_lt (h : isWa o) : o < 92 + X.n := by
  rcases h with rfl | rfl | rfl | rfl <;> omega
theorem Wa_r0 (h : isWa o) : gR (wX b X) (b + o) [6] 0 = some (some (b + (o + 1))) := by
  rcases h with rfl | rfl | rfl | rfl <;> exact x_gR (by omega) rfl (by decide) rfl
theorem Wa_i1 (h : isWa o) : gI (wX b X) (b + o) [6] 1 = some (X.I o 1) := by
  rcases h with rfl | rfl | rfl | rfl <;> exact x_gI (by omega) rfl (by decide) rfl
theorem Wa_p1 {x : Int32} (h : isWa o) : pV (wX b X) (b + o) [6] 1 (.int x) = some (wX b (X.sI o 1 x)) := by
  rcases h with rfl | rfl | rfl | rfl <;> exact x_pI (by omega) rfl (by decide) (Nat.le_of_ble_eq_true rfl) rfl
theorem Wa_o (h : isWa o) : ∃ q, gO (wX b X) (b + o) [6] = some q := by
  rcases h with rfl | rfl | rfl | rfl <;> exact ⟨_, x_gO (by omega) rfl (by decide)⟩
def isLi (o : Nat) : Prop := o = 33 ∨ o = 41
theorem Li_lt (h : isLi o) : o < 92 + X.n := by
  rcases h with rfl | rfl <;> omega
theorem Li_i0 (h : isLi o) : gI (wX b X) (b + o) [2] 0 = some (X.I o 0) := by
  rcases h with rfl | rfl <;> exact x_gI (by omega) rfl (by decide) rfl
theorem Li_p0 {x : Int32} (h : isLi o) : pV (wX b X) (b + o) [2] 0 (.int x) = some (wX b (X.sI o 0 x)) := by
  rcases h with rfl | rfl <;> exact x_pI (by omega) rfl (by decide) (Nat.le_of_ble_eq_true rfl) rfl
theorem Li_r1 (h : isLi o) : gR (wX b X) (b + o) [2] 1 = some (some (b + (o + 1))) := by
  rcases h with rfl | rfl <;> exact x_gR (by omega) rfl (by decide) rfl
theorem Li_r2 (h : isLi o) : gR (wX b X) (b + o) [2] 2 = some (some (b + (o + 4))) := by
  rcases h with rfl | rfl <;> exact x_gR (by omega) rfl (by decide) rfl
theorem Li_r3 (h : isLi o) : gR (wX b X) (b + o) [2] 3 = some (some (b + (o + 7))) := by
  rcases h with rfl | rfl <;> exact x_gR (by omega) rfl (by decide) rfl
theorem Li_i4 (h : isLi o) : gI (wX b X) (b + o) [2] 4 = some (X.I o 4) := by
  rcases h with rfl | rfl <;> exact x_gI (by omega) rfl (by decide) rfl
theorem Li_p4 {x : Int32} (h : isLi o) : pV (wX b X) (b + o) [2] 4 (.int x) = some (wX b (X.sI o 4 x)) := by
  rcases h with rfl | rfl <;> exact x_pI (by omega) rfl (by decide) (Nat.le_of_ble_eq_true rfl) rfl
theorem Li_q5 (h : isLi o) : gR (wX b X) (b + o) [2] 5 = some (X.R o 5) := by
  rcases h with rfl | rfl <;> exact x_gQ (by omega) rfl (by decide) rfl
theorem Li_p5 {x : Option Nat} (h : isLi o) : pV (wX b X) (b + o) [2] 5 (va_rf x) = some (wX b (X.sR o 5 x)) := by
  rcases h with rfl | rfl <;> exact x_pR (by omega) rfl (by decide) (Nat.le_of_ble_eq_true rfl) rfl
theorem Li_i6 (h : isLi o) : gI (wX b X) (b + o) [2] 6 = some (X.I o 6) := by
  rcases h with rfl | rfl <;> exact x_gI (by omega) rfl (by decide) rfl
theorem Li_p6 {x : Int32} (h : isLi o) : pV (wX b X) (b + o) [2] 6 (.int x) = some (wX b (X.sI o 6 x)) := by
  rcases h with rfl | rfl <;> exact x_pI (by omega) rfl (by decide) (Nat.le_of_ble_eq_true rfl) rfl
theorem Li_i7 (h : isLi o) : gI (wX b X) (b + o) [2] 7 = some (X.I o 7) := by
  rcases h with rfl | rfl <;> exact x_gI (by omega) rfl (by decide) rfl
theorem Li_p7 {x : Int32} (h : isLi o) : pV (wX b X) (b + o) [2] 7 (.int x) = some (wX b (X.sI o 7 x)) := by
  rcases h with rfl | rfl <;> exact x_pI (by omega) rfl (by decide) (Nat.le_of_ble_eq_true rfl) rfl
theorem Li_i8 (h : isLi o) : gI (wX b X) (b + o) [2] 8 = some (X.I o 8) := by
  rcases h with rfl | rfl <;> exact x_gI (by omega) rfl (by decide) rfl
theorem Li_p8 {x : Int32} (h : isLi o) : pV (wX b X) (b + o) [2] 8 (.int x) = some (wX b (X.sI o 8 x)) := by
  rcases h with rfl | rfl <;> exact x_pI (by omega) rfl (by decide) (Nat.le_of_ble_eq_true rfl) rfl
theorem Li_a7 {i : Int32} (h : isLi o) : aR (wX b X) (b + (o + 7)) 7 i = (ax i 4).bind fun k => some (X.R (o + 7) k) := by
  rcases h with rfl | rfl <;> exact x_aR (by omega) rfl
theorem Li_s7 {i : Int32} {x : Option Nat} (h : isLi o) : sR (wX b X) (b + (o + 7)) 7 i x = (ax i 4).bind fun k => some (wX b (X.sR (o + 7) k x)) := by
  rcases h with rfl | rfl <;> exact x_sR (by omega) (fun _ => rfl)
theorem Li_o (h : isLi o) : ∃ q, gO (wX b X) (b + o) [2] = some q := by
  rcases h with rfl | rfl <;> exact ⟨_, x_gO (by omega) rfl (by decide)⟩
def isSl (o : Nat) : Prop := o = 2 ∨ o = 7 ∨ o = 12 ∨ o = 17 ∨ o = 22 ∨ o = 27
theorem Sl_lt (h : isSl o) : o < 92 + X.n := by
  rcases h with rfl | rfl | rfl | rfl | rfl | rfl <;> omega
theorem Sl_i0 (h : isSl o) : gI (wX b X) (b + o) [5] 0 = some (X.I o 0) := by
  rcases h with rfl | rfl | rfl | rfl | rfl | rfl <;> exact x_gI (by omega) rfl (by decide) rfl
theorem Sl_p0 {x : Int32} (h : isSl o) : pV (wX b X) (b + o) [5] 0 (.int x) = some (wX b (X.sI o 0 x)) := by
  rcases h with rfl | rfl | rfl | rfl | rfl | rfl <;> exact x_pI (by omega) rfl (by decide) (Nat.le_of_ble_eq_true rfl) rfl
theorem Sl_r1 (h : isSl o) : gR (wX b X) (b + o) [5] 1 = some (some (b + (o + 1))) := by
  rcases h with rfl | rfl | rfl | rfl | rfl | rfl <;> exact x_gR (by omega) rfl (by decide) rfl
theorem Sl_r2 (h : isSl o) : gR (wX b X) (b + o) [5] 2 = some (some (b + (o + 2))) := by
  rcases h with rfl | rfl | rfl | rfl | rfl | rfl <;> exact x_gR (by omega) rfl (by decide) rfl
theorem Sl_r3 (h : isSl o) : gR (wX b X) (b + o) [5] 3 = some (some (b + (o + 3))) := by
  rcases h with rfl | rfl | rfl | rfl | rfl | rfl <;> exact x_gR (by omega) rfl (by decide) rfl
theorem Sl_r4 (h : isSl o) : gR (wX b X) (b + o) [5] 4 = some (some (b + (o + 4))) := by
  rcases h with rfl | rfl | rfl | rfl | rfl | rfl <;> exact x_gR (by omega) rfl (by decide) rfl
theorem Sl_i5 (h : isSl o) : gI (wX b X) (b + o) [5] 5 = some (X.I o 5) := by
  rcases h with rfl | rfl | rfl | rfl | rfl | rfl <;> exact x_gI (by omega) rfl (by decide) rfl
theorem Sl_p5 {x : Int32} (h : isSl o) : pV (wX b X) (b + o) [5] 5 (.int x) = some (wX b (X.sI o 5 x)) := by
  rcases h with rfl | rfl | rfl | rfl | rfl | rfl <;> exact x_pI (by omega) rfl (by decide) (Nat.le_of_ble_eq_true rfl) rfl
theorem Sl_i6 (h : isSl o) : gI (wX b X) (b + o) [5] 6 = some (X.I o 6) := by
  rcases h with rfl | rfl | rfl | rfl | rfl | rfl <;> exact x_gI (by omega) rfl (by decide) rfl
theorem Sl_p6 {x : Int32} (h : isSl o) : pV (wX b X) (b + o) [5] 6 (.int x) = some (wX b (X.sI o 6 x)) := by
  rcases h with rfl | rfl | rfl | rfl | rfl | rfl <;> exact x_pI (by omega) rfl (by decide) (Nat.le_of_ble_eq_true rfl) rfl
theorem Sl_i7 (h : isSl o) : gI (wX b X) (b + o) [5] 7 = some (X.I o 7) := by
  rcases h with rfl | rfl | rfl | rfl | rfl | rfl <;> exact x_gI (by omega) rfl (by decide) rfl
theorem Sl_p7 {x : Int32} (h : isSl o) : pV (wX b X) (b + o) [5] 7 (.int x) = some (wX b (X.sI o 7 x)) := by
  rcases h with rfl | rfl | rfl | rfl | rfl | rfl <;> exact x_pI (by omega) rfl (by decide) (Nat.le_of_ble_eq_true rfl) rfl
theorem Sl_i8 (h : isSl o) : gI (wX b X) (b + o) [5] 8 = some (X.I o 8) := by
  rcases h with rfl | rfl | rfl | rfl | rfl | rfl <;> exact x_gI (by omega) rfl (by decide) rfl
theorem Sl_p8 {x : Int32} (h : isSl o) : pV (wX b X) (b + o) [5] 8 (.int x) = some (wX b (X.sI o 8 x)) := by
  rcases h with rfl | rfl | rfl | rfl | rfl | rfl <;> exact x_pI (by omega) rfl (by decide) (Nat.le_of_ble_eq_true rfl) rfl
theorem Sl_a1 {i : Int32} (h : isSl o) : aI (wX b X) (b + (o + 1)) 0 i = (ax i 16).bind fun k => some (X.I (o + 1) k) := by
  rcases h with rfl | rfl | rfl | rfl | rfl | rfl <;> exact x_aI (by omega) rfl
theorem Sl_s1 {i x : Int32} (h : isSl o) : sI (wX b X) (b + (o + 1)) 0 i x = (ax i 16).bind fun k => some (wX b (X.sI (o + 1) k x)) := by
  rcases h with rfl | rfl | rfl | rfl | rfl | rfl <;> exact x_sI (by omega) (fun _ => rfl)
theorem Sl_n1 (h : isSl o) : aN (wX b X) (b + (o + 1)) 0 = some (nI 16) := by
  rcases h with rfl | rfl | rfl | rfl | rfl | rfl <;> exact x_aN (by omega) rfl
theorem Sl_a2 {i : Int32} (h : isSl o) : aI (wX b X) (b + (o + 2)) 0 i = (ax i 16).bind fun k => some (X.I (o + 2) k) := by
  rcases h with rfl | rfl | rfl | rfl | rfl | rfl <;> exact x_aI (by omega) rfl
theorem Sl_s2 {i x : Int32} (h : isSl o) : sI (wX b X) (b + (o + 2)) 0 i x = (ax i 16).bind fun k => some (wX b (X.sI (o + 2) k x)) := by
  rcases h with rfl | rfl | rfl | rfl | rfl | rfl <;> exact x_sI (by omega) (fun _ => rfl)
theorem Sl_n2 (h : isSl o) : aN (wX b X) (b + (o + 2)) 0 = some (nI 16) := by
  rcases h with rfl | rfl | rfl | rfl | rfl | rfl <;> exact x_aN (by omega) rfl
theorem Sl_a3 {i : Int32} (h : isSl o) : aI (wX b X) (b + (o + 3)) 0 i = (ax i 8).bind fun k => some (X.I (o + 3) k) := by
  rcases h with rfl | rfl | rfl | rfl | rfl | rfl <;> exact x_aI (by omega) rfl
theorem Sl_s3 {i x : Int32} (h : isSl o) : sI (wX b X) (b + (o + 3)) 0 i x = (ax i 8).bind fun k => some (wX b (X.sI (o + 3) k x)) := by
  rcases h with rfl | rfl | rfl | rfl | rfl | rfl <;> exact x_sI (by omega) (fun _ => rfl)
theorem Sl_n3 (h : isSl o) : aN (wX b X) (b + (o + 3)) 0 = some (nI 8) := by
  rcases h with rfl | rfl | rfl | rfl | rfl | rfl <;> exact x_aN (by omega) rfl
theorem Sl_a4 {i : Int32} (h : isSl o) : aI (wX b X) (b + (o + 4)) 0 i = (ax i 8).bind fun k => some (X.I (o + 4) k) := by
  rcases h with rfl | rfl | rfl | rfl | rfl | rfl <;> exact x_aI (by omega) rfl
theorem Sl_s4 {i x : Int32} (h : isSl o) : sI (wX b X) (b + (o + 4)) 0 i x = (ax i 8).bind fun k => some (wX b (X.sI (o + 4) k x)) := by
  rcases h with rfl | rfl | rfl | rfl | rfl | rfl <;> exact x_sI (by omega) (fun _ => rfl)
theorem Sl_n4 (h : isSl o) : aN (wX b X) (b + (o + 4)) 0 = some (nI 8) := by
  rcases h with rfl | rfl | rfl | rfl | rfl | rfl <;> exact x_aN (by omega) rfl
theorem Sl_o (h : isSl o) : ∃ q, gO (wX b X) (b + o) [5] = some q := by
  rcases h with rfl | rfl | rfl | rfl | rfl | rfl <;> exact ⟨_, x_gO (by omega) rfl (by decide)⟩
def isJo (X : Xs) (o : Nat) : Prop := 92 ≤ o ∧ o < 92 + X.n ∧ (X.K o = 3 ∨ X.K o = 4)
def isRe (X : Xs) (o : Nat) : Prop := 92 ≤ o ∧ o < 92 + X.n ∧ X.K o = 4
def isPo (X : Xs) (o : Nat) : Prop := 92 ≤ o ∧ o < 92 + X.n ∧ X.K o = 3
theorem isRe.jo (h : isRe X o) : isJo X o := ⟨h.1, h.2.1, Or.inr h.2.2⟩
theorem isPo.jo (h : isPo X o) : isJo X o := ⟨h.1, h.2.1, Or.inl h.2.2⟩
theorem re_c (h : isRe X o) : cel b X o = .inr (4, [.int (X.I o 0), .int (X.I o 1), .int (X.I o 2), .int (X.I o 3), .int (X.I o 4), .long (X.J o 5), .int (X.I o 6), .int (X.I o 7), .long (X.J o 8)]) := by
  unfold cel jobX
  have h1 := h.1
  rw [if_neg (by omega), h.2.2, if_neg (by decide)]
theorem po_c (h : isPo X o) : cel b X o = .inr (3, [.int (X.I o 0), .int (X.I o 1), .int (X.I o 2), .int (X.I o 3), .int (X.I o 4), .long (X.J o 5), .int (X.I o 6), .ref (b + 51)]) := by
  unfold cel jobX
  have h1 := h.1
  rw [if_neg (by omega), h.2.2, if_pos rfl]
theorem jo_i0 (h : isJo X o) : gI (wX b X) (b + o) [3, 4] 0 = some (X.I o 0) := by
  obtain ⟨h1, h2, h3 | h3⟩ := h
  · exact x_gI h2 (po_c ⟨h1, h2, h3⟩) (by decide) rfl
  · exact x_gI h2 (re_c ⟨h1, h2, h3⟩) (by decide) rfl
theorem re_i0 (h : isRe X o) : gI (wX b X) (b + o) [4] 0 = some (X.I o 0) := x_gI h.2.1 (re_c h) (by decide) rfl
theorem po_i0 (h : isPo X o) : gI (wX b X) (b + o) [3] 0 = some (X.I o 0) := x_gI h.2.1 (po_c h) (by decide) rfl
theorem jo_i1 (h : isJo X o) : gI (wX b X) (b + o) [3, 4] 1 = some (X.I o 1) := by
  obtain ⟨h1, h2, h3 | h3⟩ := h
  · exact x_gI h2 (po_c ⟨h1, h2, h3⟩) (by decide) rfl
  · exact x_gI h2 (re_c ⟨h1, h2, h3⟩) (by decide) rfl
theorem re_i1 (h : isRe X o) : gI (wX b X) (b + o) [4] 1 = some (X.I o 1) := x_gI h.2.1 (re_c h) (by decide) rfl
theorem po_i1 (h : isPo X o) : gI (wX b X) (b + o) [3] 1 = some (X.I o 1) := x_gI h.2.1 (po_c h) (by decide) rfl
theorem jo_i2 (h : isJo X o) : gI (wX b X) (b + o) [3, 4] 2 = some (X.I o 2) := by
  obtain ⟨h1, h2, h3 | h3⟩ := h
  · exact x_gI h2 (po_c ⟨h1, h2, h3⟩) (by decide) rfl
  · exact x_gI h2 (re_c ⟨h1, h2, h3⟩) (by decide) rfl
theorem re_i2 (h : isRe X o) : gI (wX b X) (b + o) [4] 2 = some (X.I o 2) := x_gI h.2.1 (re_c h) (by decide) rfl
theorem po_i2 (h : isPo X o) : gI (wX b X) (b + o) [3] 2 = some (X.I o 2) := x_gI h.2.1 (po_c h) (by decide) rfl
theorem jo_i3 (h : isJo X o) : gI (wX b X) (b + o) [3, 4] 3 = some (X.I o 3) := by
  obtain ⟨h1, h2, h3 | h3⟩ := h
  · exact x_gI h2 (po_c ⟨h1, h2, h3⟩) (by decide) rfl
  · exact x_gI h2 (re_c ⟨h1, h2, h3⟩) (by decide) rfl
theorem re_i3 (h : isRe X o) : gI (wX b X) (b + o) [4] 3 = some (X.I o 3) := x_gI h.2.1 (re_c h) (by decide) rfl
theorem po_i3 (h : isPo X o) : gI (wX b X) (b + o) [3] 3 = some (X.I o 3) := x_gI h.2.1 (po_c h) (by decide) rfl
theorem jo_i4 (h : isJo X o) : gI (wX b X) (b + o) [3, 4] 4 = some (X.I o 4) := by
  obtain ⟨h1, h2, h3 | h3⟩ := h
  · exact x_gI h2 (po_c ⟨h1, h2, h3⟩) (by decide) rfl
  · exact x_gI h2 (re_c ⟨h1, h2, h3⟩) (by decide) rfl
theorem re_i4 (h : isRe X o) : gI (wX b X) (b + o) [4] 4 = some (X.I o 4) := x_gI h.2.1 (re_c h) (by decide) rfl
theorem po_i4 (h : isPo X o) : gI (wX b X) (b + o) [3] 4 = some (X.I o 4) := x_gI h.2.1 (po_c h) (by decide) rfl
theorem jo_j5 (h : isJo X o) : gL (wX b X) (b + o) [3, 4] 5 = some (X.J o 5) := by
  obtain ⟨h1, h2, h3 | h3⟩ := h
  · exact x_gL h2 (po_c ⟨h1, h2, h3⟩) (by decide) rfl
  · exact x_gL h2 (re_c ⟨h1, h2, h3⟩) (by decide) rfl
theorem jo_o (h : isJo X o) : ∃ q, gO (wX b X) (b + o) [3, 4] = some q ∧ q.1 = X.K o := by
  obtain ⟨h1, h2, h3 | h3⟩ := h
  · exact ⟨_, x_gO h2 (po_c ⟨h1, h2, h3⟩) (by decide), h3.symm⟩
  · exact ⟨_, x_gO h2 (re_c ⟨h1, h2, h3⟩) (by decide), h3.symm⟩
theorem re_o (h : isRe X o) : ∃ q, gO (wX b X) (b + o) [4] = some q := ⟨_, x_gO h.2.1 (re_c h) (by decide)⟩
theorem po_o (h : isPo X o) : ∃ q, gO (wX b X) (b + o) [3] = some q := ⟨_, x_gO h.2.1 (po_c h) (by decide)⟩
theorem re_i6 (h : isRe X o) : gI (wX b X) (b + o) [4] 6 = some (X.I o 6) := x_gI h.2.1 (re_c h) (by decide) rfl
theorem re_i7 (h : isRe X o) : gI (wX b X) (b + o) [4] 7 = some (X.I o 7) := x_gI h.2.1 (re_c h) (by decide) rfl
theorem re_j8 (h : isRe X o) : gL (wX b X) (b + o) [4] 8 = some (X.J o 8) := x_gL h.2.1 (re_c h) (by decide) rfl
theorem po_i6 (h : isPo X o) : gI (wX b X) (b + o) [3] 6 = some (X.I o 6) := x_gI h.2.1 (po_c h) (by decide) rfl
theorem po_r7 (h : isPo X o) : gR (wX b X) (b + o) [3] 7 = some (some (b + 51)) := x_gR h.2.1 (po_c h) (by decide) rfl
theorem re_p6 {x : Int32} (h : isRe X o) : pV (wX b X) (b + o) [4] 6 (.int x) = some (wX b (X.sI o 6 x)) := by
  refine x_pI h.2.1 (re_c h) (by decide) (Nat.le_of_ble_eq_true rfl) ?_
  have h2 : isRe (X.sI o 6 x) o := h
  rw [re_c h2]
  simp [Xs.sI, Xs.I, Xs.J, up2]
theorem re_p7 {x : Int32} (h : isRe X o) : pV (wX b X) (b + o) [4] 7 (.int x) = some (wX b (X.sI o 7 x)) := by
  refine x_pI h.2.1 (re_c h) (by decide) (Nat.le_of_ble_eq_true rfl) ?_
  have h2 : isRe (X.sI o 7 x) o := h
  rw [re_c h2]
  simp [Xs.sI, Xs.I, Xs.J, up2]
theorem re_p8 {x : Int64} (h : isRe X o) : pV (wX b X) (b + o) [4] 8 (.long x) = some (wX b (X.sJ o 8 x)) := by
  refine x_pJ h.2.1 (re_c h) (by decide) (Nat.le_of_ble_eq_true rfl) ?_
  have h2 : isRe (X.sJ o 8 x) o := h
  rw [re_c h2]
  simp [Xs.sJ, Xs.I, Xs.J, up2]
end XM
