/-! Blocks of plans. -/
def bpN (A B : Nat → Int32) (fl : Int32 → Int32) (s : Int32) : Nat → Nat → Option (Nat × Int32) → Option (Nat × Int32)
  | _, 0, st => st
  | a, n + 1, st => bpN A B fl s (a + 1) n (stB A B fl s a st)
theorem bpS_N {A B : Nat → Int32} {fl : Int32 → Int32} {s : Int32} : ∀ (d : Nat) (st : Option (Nat × Int32)), d ≤ 1296 → bpS A B fl s d st = bpN A B fl s (1296 - d) d st := by
  intro d
  induction d with
  | zero => intro st _; rfl
  | succ d ih =>
    intro st hd
    rw [bpS, bpN, ih _ (by omega), show 1296 - (d + 1) = 1295 - d by omega, show 1295 - d + 1 = 1296 - d by omega]
theorem bpN_add {A B : Nat → Int32} {fl : Int32 → Int32} {s : Int32} : ∀ (m n a : Nat) (st : Option (Nat × Int32)), bpN A B fl s a (m + n) st = bpN A B fl s (a + m) n (bpN A B fl s a m st) := by
  intro m
  induction m with
  | zero => intro n a st; rw [Nat.zero_add, Nat.add_zero, bpN]
  | succ m ih =>
    intro n a st
    rw [show m + 1 + n = (m + n) + 1 by omega, bpN, ih, bpN, show a + 1 + m = a + (m + 1) by omega]
/-- a plan with the place P is taken, if it is the first or the better -/
def tkB (sd : Int32) (v : Nat) (P : Int32) (st : Option (Nat × Int32)) : Option (Nat × Int32) := match st with
  | none => some (v, P)
  | some x => if bt sd P x.2 = true then some (v, P) else some x
theorem stB_tk {A B : Nat → Int32} {fl : Int32 → Int32} {s : Int32} {v u : Nat} (h : met (PL A (pv v)) B fl s = some u) (st : Option (Nat × Int32)) : stB A B fl s v st = tkB (A 2) v (metP (PL A (pv v)) B fl u) st := by
  unfold stB tkB
  rw [h]
  cases st <;> rfl
theorem stB_no {A B : Nat → Int32} {fl : Int32 → Int32} {s : Int32} {v : Nat} (h : met (PL A (pv v)) B fl s = none) (st : Option (Nat × Int32)) : stB A B fl s v st = st := by
  unfold stB
  rw [h]
theorem tk_again {sd P : Int32} {v w : Nat} {st : Option (Nat × Int32)} : tkB sd w P (tkB sd v P st) = tkB sd v P st := by
  cases st with
  | none =>
    show (if bt sd P P = true then some (w, P) else some (v, P)) = some (v, P)
    rw [bt_rf, if_neg (by decide)]
  | some x =>
    show tkB sd w P (if bt sd P x.2 = true then some (v, P) else some x) = (if bt sd P x.2 = true then some (v, P) else some x)
    cases h : bt sd P x.2 with
    | true =>
      rw [if_pos rfl]
      show (if bt sd P P = true then some (w, P) else some (v, P)) = some (v, P)
      rw [bt_rf, if_neg (by decide)]
    | false =>
      rw [if_neg (by decide)]
      show (if bt sd P x.2 = true then some (w, P) else some x) = some x
      rw [h, if_neg (by decide)]
/-- a block with one meeting: only its first plan can be taken -/
theorem blk_one {A B : Nat → Int32} {fl : Int32 → Int32} {s P : Int32} {u : Nat} : ∀ (n a v : Nat) (st : Option (Nat × Int32)), (∀ w, a ≤ w → w < a + n → met (PL A (pv w)) B fl s = some u ∧ metP (PL A (pv w)) B fl u = P) → bpN A B fl s a n (tkB (A 2) v P st) = tkB (A 2) v P st := by
  intro n
  induction n with
  | zero => intro a v st _; rfl
  | succ n ih =>
    intro a v st h
    obtain ⟨h1, h2⟩ := h a (by omega) (by omega)
    rw [bpN, stB_tk h1, h2, tk_again]
    exact ih (a + 1) v st (fun w x y => h w (by omega) (by omega))
theorem blk_some {A B : Nat → Int32} {fl : Int32 → Int32} {s P : Int32} {u : Nat} {n a : Nat} {st : Option (Nat × Int32)} (h : ∀ w, a ≤ w → w < a + (n + 1) → met (PL A (pv w)) B fl s = some u ∧ metP (PL A (pv w)) B fl u = P) : bpN A B fl s a (n + 1) st = tkB (A 2) a P st := by
  obtain ⟨h1, h2⟩ := h a (by omega) (by omega)
  rw [bpN, stB_tk h1, h2]
  exact blk_one n (a + 1) a st (fun w x y => h w (by omega) (by omega))
theorem blk_none {A B : Nat → Int32} {fl : Int32 → Int32} {s : Int32} : ∀ (n a : Nat) (st : Option (Nat × Int32)), (∀ w, a ≤ w → w < a + n → met (PL A (pv w)) B fl s = none) → bpN A B fl s a n st = st := by
  intro n
  induction n with
  | zero => intro a st _; rfl
  | succ n ih =>
    intro a st h
    rw [bpN, stB_no (h a (by omega) (by omega))]
    exact ih (a + 1) st (fun w x y => h w (by omega) (by omega))
