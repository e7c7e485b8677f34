/-! Questions that change nothing: ask, leastSight. -/
theorem C8.fr {x : Option (Int32 × Sto)} {σ τ : Sto} {o : Int32 ⊕ Nat} (f : Fr σ τ) (h : C8 x τ o) : C8 x σ o := by
  cases o with
  | inl v => obtain ⟨υ, u1, u2⟩ := h; exact ⟨υ, u1, f.tr u2⟩
  | inr k => obtain ⟨υ, u1, u2⟩ := h; exact ⟨υ, u1, f.tr u2⟩
def upv (V : Nat → Int32) (i : Nat) (w : Int32) : Nat → Int32 := fun j => if j = i then w else V j
theorem upv_ne {V : Nat → Int32} {i j : Nat} {w : Int32} (h : j ≠ i) : upv V i w j = V j := if_neg h
theorem upv_at {V : Nat → Int32} {i : Nat} {w : Int32} : upv V i w i = w := if_pos rfl
theorem sI_row {σ : Sto} {k i : Nat} {w : Int32} : (sI σ k i w).1 k = upv (σ.1 k) i w := funext fun j => sI_at
theorem pPos_fl {A : Nat → Int32} (hA : GR A) {fl fl' : Int32 → Int32} (h : ∀ i, i < 6 → fl (nI i) = fl' (nI i)) : ∀ t, pPos A fl t = pPos A fl' t := by
  intro t
  induction t with
  | zero => rfl
  | succ t ih =>
    obtain ⟨l, hl, e⟩ := hA.pLn t
    rw [pPos, pPos, ih]
    unfold pGo
    rw [e, h l hl]
theorem met_fl {A B : Nat → Int32} (hA : GR A) (hB : GR B) {fl fl' : Int32 → Int32} (h : ∀ i, i < 6 → fl (nI i) = fl' (nI i)) (s : Int32) : met A B fl s = met A B fl' s := by
  have hm : ∀ t, mtT A B fl s t = mtT A B fl' s t := by
    intro t
    unfold mtT gapT
    rw [pPos_fl hA h, pPos_fl hB h]
  have hd : ∀ d, mtD A B fl s d = mtD A B fl' s d := by
    intro d
    induction d with
    | zero => rfl
    | succ d ih => rw [mtD, mtD, hm, ih]
  exact hd 60
theorem metP_fl {A B : Nat → Int32} (hA : GR A) (hB : GR B) {fl fl' : Int32 → Int32} (h : ∀ i, i < 6 → fl (nI i) = fl' (nI i)) (u : Nat) : metP A B fl u = metP A B fl' u := by
  unfold metP
  rw [pPos_fl hA h, pPos_fl hB h]
theorem CW.vc {V W : Nat → Int32} {u : Nat} (hu : u ≤ 1) (h : CW V u) (e : ∀ i, (88 ≤ i ∧ i < 90) ∨ (110 ≤ i ∧ i < 210) → W i = V i) : CW W u := by
  obtain ⟨n, q1, q2, q3⟩ := h
  refine ⟨n, q1, by rw [e _ (by omega)]; exact q2, q3.imp id (fun q => ?_)⟩
  rw [show codeL W u n = codeL V u n from List.map_congr_left (fun i hi => e _ (by have := List.mem_range.mp hi; omega))]
  exact q
/-- a swim with the row W, where flows are as with V, the swimmers are those of A and B -/
theorem swimW {σ : Sto} {V W A B : Nat → Int32} {w s : Int32} (hW : σ.1 82 = W) (hv : Vc W V) (hc : CW V 0) (e6 : W 6 = w) (e7 : W 7 = s) {p q : Nat} (hp : p < 8) (hq : q < 8) (hA : Eq9 (S9 W p) A) (hB : Eq9 (S9 W q) B) (gA : GR A) (gB : GR B) (hu : ¬ A 2 = B 2) :
    ∃ τ, f_X9_swim σ (nI p) (nI q) = some ((met A B (flV V w) s).isSome, τ) ∧ Fs σ τ ∧ ∀ u, met A B (flV V w) s = some u → τ.1 81 15 = nI u ∧ τ.1 81 16 = metP A B (flV V w) u := by
  have hcW : CW W 0 := hc.vc (by omega) hv.2
  obtain ⟨τ, t1, t2, t3⟩ := swim9 (σ := σ) (by rw [hW]; exact hcW) hp hq (by rw [hW]; exact hA.gr gA) (by rw [hW]; exact hB.gr gB) (by rw [hW, hA 2 (by omega), hB 2 (by omega)]; exact hu)
  have hf : ∀ i, i < 6 → flV W w (nI i) = flV V w (nI i) := fun i hi => hv.fl hc w hi
  rw [hW, e6, e7, hA.me hB, met_fl gA gB hf] at t1 t3
  exact ⟨τ, t1, t2, fun u hu => by obtain ⟨v1, v2⟩ := t3 u hu; exact ⟨v1, by rw [v2, hA.mP hB, metP_fl gA gB hf]⟩⟩
def bt (s a b : Int32) : Bool := if s = 0 then !decide (a ≤ b) else !decide (b ≤ a)
theorem bt8 (s a b : Int32) : f_X8_isBetter s a b = some (bt s a b) := by
  unfold f_X8_isBetter bt
  by_cases h : s = 0
  · rw [if_pos h, if_pos h]
    by_cases h' : a ≤ b
    · rw [if_pos h', decide_eq_true h']; rfl
    · rw [if_neg h', decide_eq_false h']; rfl
  · rw [if_neg h, if_neg h]
    by_cases h' : b ≤ a
    · rw [if_pos h', decide_eq_true h']; rfl
    · rw [if_neg h', decide_eq_false h']; rfl
theorem bt9 (s a b : Int32) : f_X9_isBetter s a b = some (bt s a b) := bt8 s a b
def askS (A B V : Nat → Int32) (s : Int32) : Nat → Option (Int32 × Int32) → Option (Int32 × Int32)
  | 0, st => st
  | d + 1, st => askS A B V s d (match met A B (flV V (3 - nI d)) s with
    | none => st
    | some u => match st with
      | none => some (3 - nI d, metP A B (flV V (3 - nI d)) u)
      | some x => if bt (A 2) (metP A B (flV V (3 - nI d)) u) x.2 = true then some (3 - nI d, metP A B (flV V (3 - nI d)) u) else some x)
def ansO (st : Option (Int32 × Int32)) : Int32 ⊕ Nat := match st with
  | none => .inr 2
  | some x => .inl x.1
theorem wind_n : ∀ d, d < 7 → ¬ (3 : Int32) < 3 - nI d ∧ (3 - nI d + 1 : Int32) = 4 - nI d ∧ ¬ (3 - nI d : Int32) = 9 := by decide +kernel
theorem wind_s : ∀ d, d < 7 → (4 - nI (d + 1) : Int32) = 3 - nI d := by decide +kernel
/-- the meeting of two swimmers of the lake, with a wind -/
theorem meetW {σ : Sto} (h : Ic σ) {V A B : Nat → Int32} {w s : Int32} (hd : σ.1 82 = V) {k1 k2 : Nat} (hk1 : K0 k1 = 6) (hk2 : K0 k2 = 6) (n1 : k1 ≠ 6 ∧ k1 ≠ 59 ∧ k1 ≠ 5 ∧ k1 ≠ 58) (n2 : k2 ≠ 6 ∧ k2 ≠ 59 ∧ k2 ≠ 5 ∧ k2 ≠ 58) (hA : Eq9 (S8 σ k1) A) (hB : Eq9 (S8 σ k2) B) (gA : GR A) (gB : GR B) (hs : σ.1 1 2 = s) :
    ∃ τ υ, f_X5_feel σ 1 w = some τ ∧ f_X5_meets τ k1 k2 (τ.1 1 2) = some ((met A B (flV V w) s).isSome, υ) ∧ (∀ a b, a ≠ 6 → a ≠ 58 → a ≠ 59 → υ.1 a b = σ.1 a b) ∧ ∀ u, met A B (flV V w) s = some u → υ.1 58 1 = nI u ∧ υ.1 58 2 = metP A B (flV V w) u ∧ υ.1 58 3 = pLn A u := by
  obtain ⟨τ, t1, t2, t3⟩ := feel_eq h w
  have hf : Fl τ (flV V w) := by rw [← hd]; exact t2
  have eA : Eq9 (S8 τ k1) A := by rw [S8_congr (fun j => t3 k1 j n1.1 n1.2.1) (fun j => t3 (k1 + 1) j (by omega) (by omega))]; exact hA
  have eB : Eq9 (S8 τ k2) B := by rw [S8_congr (fun j => t3 k2 j n2.1 n2.2.1) (fun j => t3 (k2 + 1) j (by omega) (by omega))]; exact hB
  obtain ⟨υ, u1, u2, u3⟩ := meets8 hk1 hk2 gA gB eA eB hf s
  refine ⟨τ, υ, t1, ?_, fun a b h1 h2 h3 => by rw [u2 a b h2, t3 a b h1 h3], u3⟩
  rw [t3 1 2 (by decide) (by decide), hs]
  exact u1
theorem fr_m {σ τ : Sto} (h : ∀ a b, a ≠ 6 → a ≠ 58 → a ≠ 59 → τ.1 a b = σ.1 a b) : Fr σ τ := fun k j hs => h k j (by rintro rfl; simp [scr] at hs) (by rintro rfl; simp [scr] at hs) (by rintro rfl; simp [scr] at hs)
theorem ask8_L {V : Nat → Int32} {p q : Nat} (hp : p < 8) (hq : q < 8) (hpN : p < NN V) (hqN : q < NN V) : ∀ (d n : Nat) (st : Option (Int32 × Int32)) (v5 : Bool) (v6 v7 : Int32) (σ : Sto), d ≤ 7 → d < n → Iw σ → σ.1 82 = V → v5 = st.isSome → (∀ x, st = some x → v6 = x.1 ∧ v7 = x.2) →
    C8 (f_X8_ask_L47 (some (12 + 2 * p)) (some (12 + 2 * q)) n v5 v6 v7 (4 - nI d) σ) σ (ansO (askS (S9 V p) (S9 V q) V (V 7) d st)) := by
  intro d
  induction d with
  | zero =>
    intro n st v5 v6 v7 σ _ h2 hI hV h5 h6
    obtain ⟨n, rfl⟩ : ∃ n', n = n' + 1 := ⟨n - 1, by omega⟩
    rw [f_X8_ask_L47, if_pos (by decide)]
    cases st with
    | none =>
      subst h5
      rw [if_neg (show ¬ (none : Option (Int32 × Int32)).isSome = true by decide), r8_2, bind_s]
      exact ⟨σ, rfl, Fr.rf σ⟩
    | some x =>
      subst h5
      rw [if_pos (show (some x).isSome = true from rfl), (h6 x rfl).1]
      exact ⟨σ, rfl, Fr.rf σ⟩
  | succ d ih =>
    intro n st v5 v6 v7 σ h1 h2 hI hV h5 h6
    obtain ⟨n, rfl⟩ : ∃ n', n = n' + 1 := ⟨n - 1, by omega⟩
    obtain ⟨w1, w2, w3⟩ := wind_n d (by omega)
    have ok : ∀ i, okv i (V i) = true := by rw [← hV]; exact hI.ok
    have e1 := sw_Eq9 hI (p := p) (by rw [hV]; exact hpN)
    have e2 := sw_Eq9 hI (p := q) (by rw [hV]; exact hqN)
    rw [hV] at e1 e2
    obtain ⟨τ, υ, t1, t2, t3, t4⟩ := meetW hI.ic (w := 3 - nI d) (s := V 7) hV (K12 p hp) (K12 q hq) (by omega) (by omega) e1 e2 (gr9 ok hp) (gr9 ok hq) ((hI.mp (i := 7) (j := 2) (by decide)).trans (by rw [hV]))
    have f : Fr σ υ := fr_m t3
    have hIυ : Iw υ := hI.fr (fun k j hs _ _ => f k j hs)
    have hVυ : υ.1 82 = V := f.d.trans hV
    have hside : υ.1 (12 + 2 * p) 2 = S9 V p 2 := by rw [t3 _ _ (by omega) (by omega) (by omega)]; exact e1 2 (by omega)
    rw [f_X8_ask_L47, wind_s d (by omega), if_neg w1, t1, bind_s, deref6 (K12 p hp), deref6 (K12 q hq), t2, bind_s, askS]
    unfold f_X8_ask_L126 f_X8_ask_L110 f_X8_ask_L126
    rw [w2]
    cases hm : met (S9 V p) (S9 V q) (flV V (3 - nI d)) (V 7) with
    | none =>
      rw [if_neg (show ¬ (none : Option Nat).isSome = true by decide)]
      exact (ih n st v5 v6 v7 υ (by omega) (by omega) hIυ hVυ h5 h6).fr f
    | some u =>
      obtain ⟨-, v2, -⟩ := t4 u hm
      rw [if_pos (show (some u).isSome = true from rfl)]
      cases st with
      | none =>
        subst h5
        rw [if_neg (show ¬ (none : Option (Int32 × Int32)).isSome = true by decide), v2]
        exact (ih n (some (3 - nI d, metP (S9 V p) (S9 V q) (flV V (3 - nI d)) u)) true _ _ υ (by omega) (by omega) hIυ hVυ rfl (fun x hx => by cases hx; exact ⟨rfl, rfl⟩)).fr f
      | some x =>
        subst h5
        rw [if_pos (show (some x).isSome = true from rfl), hside, v2, bt8, bind_s, (h6 x rfl).2]
        cases hb : bt (S9 V p 2) (metP (S9 V p) (S9 V q) (flV V (3 - nI d)) u) x.2 with
        | true =>
          rw [if_pos rfl]
          simp only [hb, if_true]
          exact (ih n (some (3 - nI d, metP (S9 V p) (S9 V q) (flV V (3 - nI d)) u)) true _ _ υ (by omega) (by omega) hIυ hVυ rfl (fun x hx => by cases hx; exact ⟨rfl, rfl⟩)).fr f
        | false =>
          rw [if_neg (by decide)]
          simp only [hb, Bool.false_eq_true, if_false]
          exact (ih n (some x) _ _ _ υ (by omega) (by omega) hIυ hVυ rfl (fun y hy => by cases hy; exact ⟨(h6 x rfl).1, rfl⟩)).fr f
theorem ask9_L {V : Nat → Int32} (ok : ∀ i, okv i (V i) = true) (hc : CW V 0) {p q : Nat} (hp : p < 8) (hq : q < 8) (hu : ¬ S9 V p 2 = S9 V q 2) {σ0 : Sto} (h0 : σ0.1 82 = V) : ∀ (d n : Nat) (st : Option (Int32 × Int32)) (v4 v5 : Int32) (σ : Sto), d ≤ 7 → d < n → K9 σ0 σ → (∀ j, j ≠ 6 → σ.1 82 j = V j) → (st = none → v4 = 9) → (∀ x, st = some x → v4 = x.1 ∧ v5 = x.2 ∧ ¬ x.1 = 9) →
    C9 (f_X9_ask_L34 (nI p) (nI q) (V 6) n v4 v5 (4 - nI d) σ) σ0 (ansO (askS (S9 V p) (S9 V q) V (V 7) d st)) := by
  intro d
  induction d with
  | zero =>
    intro n st v4 v5 σ _ h2 hk hV h4 h5
    obtain ⟨n, rfl⟩ : ∃ n', n = n' + 1 := ⟨n - 1, by omega⟩
    have f : Fr σ0 (sI σ 82 6 (V 6)) := by
      intro a b hs
      by_cases ha : a = 82
      · subst ha
        rw [sI_at, h0]
        by_cases hb : b = 6
        · rw [if_pos hb, hb]
        · rw [if_neg hb, hV b hb]
      · rw [sI_ne ha, hk a b ha hs]
    rw [f_X9_ask_L34, if_pos (by decide), wrA_82_6, bind_s]
    cases st with
    | none =>
      rw [if_pos (h4 rfl), r9_2, bind_s]
      exact ⟨_, rfl, f⟩
    | some x =>
      obtain ⟨x1, x2, x3⟩ := h5 x rfl
      rw [if_neg (by rw [x1]; exact x3), x1]
      exact ⟨_, rfl, f⟩
  | succ d ih =>
    intro n st v4 v5 σ h1 h2 hk hV h4 h5
    obtain ⟨n, rfl⟩ : ∃ n', n = n' + 1 := ⟨n - 1, by omega⟩
    obtain ⟨w1, w2, w3⟩ := wind_n d (by omega)
    have hW : ∀ j, j ≠ 6 → (sI σ 82 6 (3 - nI d)).1 82 j = V j := fun j hj => by rw [sI_nj hj]; exact hV j hj
    obtain ⟨υ, t1, t2, t3⟩ := swimW (σ := sI σ 82 6 (3 - nI d)) (V := V) (A := S9 V p) (B := S9 V q) (w := 3 - nI d) (s := V 7) rfl ⟨fun i hi => hW i (by omega), fun i hi => hW i (by omega)⟩ hc (by rw [sI_at, if_pos rfl]) (hW 7 (by decide)) hp hq (fun j hj => hW _ (by omega)) (fun j hj => hW _ (by omega)) (gr9 ok hp) (gr9 ok hq) hu
    have kυ : K9 σ0 υ := hk.tr ((K9.w _).tr t2.fr.k9)
    have hVυ : ∀ j, j ≠ 6 → υ.1 82 j = V j := fun j hj => by rw [t2.d]; exact hW j hj
    have o2 : f_X9_of υ (nI p) 2 = some (S9 V p 2) := by
      rw [show f_X9_of υ (nI p) 2 = _ from of_eq hp (j := 2) (by omega)]
      unfold S9
      rw [hVυ _ (by omega)]
    rw [f_X9_ask_L34, wind_s d (by omega), if_neg w1, wrA_82_6, bind_s, t1, bind_s, askS]
    unfold f_X9_ask_L93 f_X9_ask_L83 f_X9_ask_L93
    rw [w2]
    cases hm : met (S9 V p) (S9 V q) (flV V (3 - nI d)) (V 7) with
    | none =>
      rw [if_neg (show ¬ (none : Option Nat).isSome = true by decide)]
      exact ih n st v4 v5 υ (by omega) (by omega) kυ hVυ h4 h5
    | some u =>
      obtain ⟨-, v2⟩ := t3 u hm
      rw [if_pos (show (some u).isSome = true from rfl)]
      cases st with
      | none =>
        rw [if_pos (h4 rfl), v2]
        exact ih n (some (3 - nI d, metP (S9 V p) (S9 V q) (flV V (3 - nI d)) u)) _ _ υ (by omega) (by omega) kυ hVυ (fun h => by cases h) (fun x hx => by cases hx; exact ⟨rfl, rfl, w3⟩)
      | some x =>
        obtain ⟨x1, x2, x3⟩ := h5 x rfl
        rw [if_neg (by rw [x1]; exact x3), o2, bind_s, v2, bt9, bind_s, x2]
        cases hb : bt (S9 V p 2) (metP (S9 V p) (S9 V q) (flV V (3 - nI d)) u) x.2 with
        | true =>
          rw [if_pos rfl]
          simp only [hb, if_true]
          exact ih n (some (3 - nI d, metP (S9 V p) (S9 V q) (flV V (3 - nI d)) u)) _ _ υ (by omega) (by omega) kυ hVυ (fun h => by cases h) (fun x hx => by cases hx; exact ⟨rfl, rfl, w3⟩)
        | false =>
          rw [if_neg (by decide)]
          simp only [hb, Bool.false_eq_true, if_false]
          exact ih n (some x) _ _ υ (by omega) (by omega) kυ hVυ (fun h => by cases h) (fun y hy => by cases hy; exact ⟨x1, rfl, x3⟩)
theorem s_ask (a1 a2 : Int32) (b : Bool) : LPr (fun σ => f_X8_ask σ a1 a2) (fun σ => f_X9_ask σ a1 a2) b Inv Inv := by
  refine pr_ro (fun σ => if unl (σ.1 82) a1 a2 = true then ansO (askS (S9 (σ.1 82) a1.toNatClampNeg) (S9 (σ.1 82) a2.toNatClampNeg) (σ.1 82) (σ.1 82 7) 7 none) else .inr 1) (fun σ τ h => by show _ = _; rw [h.d]) (fun σ h => ?_) (fun σ h => ?_) b
  · show C8 (f_X8_ask σ a1 a2) σ _
    unfold f_X8_ask
    rcases unl_c h a1 a2 with ⟨hn, ⟨r5, r15, e1, e2, e3⟩, -⟩ | ⟨p, q, hp, hq, hpN, hqN, rfl, rfl, hu, hn, e1, e2, e3, -⟩
    · simp only [hn, Bool.false_eq_true, if_false]
      exact ⟨σ, by rw [e1, bind_s, e2, bind_s, e3, bind_s, if_neg (by decide), r8_1, bind_s], Fr.rf σ⟩
    · simp only [hn, if_true]
      rw [e1, bind_s, e2, bind_s, e3, bind_s, if_pos rfl, nI_clamp (by omega), nI_clamp (by omega)]
      exact ask8_L hp hq hpN hqN 7 FU none false 0 0 σ (by omega) (by unfold FU; omega) h rfl rfl (fun x hx => by cases hx)
  · show C9 (f_X9_ask σ a1 a2) σ _
    unfold f_X9_ask
    rcases unl_c h a1 a2 with ⟨hn, -, e3⟩ | ⟨p, q, hp, hq, hpN, hqN, rfl, rfl, hu, hn, -, -, -, e3⟩
    · simp only [hn, Bool.false_eq_true, if_false]
      exact ⟨σ, by rw [e3, bind_s, if_neg (by decide), r9_1, bind_s], Fr.rf σ⟩
    · simp only [hn, if_true]
      rw [e3, bind_s, if_pos rfl, rdA_82_6, bind_s, nI_clamp (by omega), nI_clamp (by omega)]
      exact ask9_L h.ok h.cd.1.cw hp hq hu rfl 7 FU none 9 0 σ (by omega) (by unfold FU; omega) (K9.rf _) (fun _ _ => rfl) (fun _ => rfl) (fun x hx => by cases hx)
