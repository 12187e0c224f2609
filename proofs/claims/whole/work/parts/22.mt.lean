/-! ===== memories that are wholly known: cells of ours as a list ===== -/
/-- kind, ints, longs, references -/
abbrev mC : Type := Nat × Nat × List Int32 × List Int64 × List Nat
def mg {α : Type} (d : α) : List α → Nat → α
  | [], _ => d
  | a :: _, 0 => a
  | _ :: l, n + 1 => mg d l n
def ms {α : Type} (d : α) : List α → Nat → α → List α
  | [], 0, v => [v]
  | [], n + 1, v => d :: ms d [] n v
  | _ :: l, 0, v => v :: l
  | a :: l, n + 1, v => a :: ms d l n v
def mmod {α : Type} : List α → Nat → (α → α) → List α
  | [], _, _ => []
  | a :: l, 0, f => f a :: l
  | a :: l, n + 1, f => a :: mmod l n f
theorem mg_ms {α : Type} (d : α) : ∀ (l : List α) (i j : Nat) (v : α), mg d (ms d l i v) j = if j = i then v else mg d l j := by
  intro l i
  induction i generalizing l with
  | zero =>
    intro j v
    cases l <;> cases j <;> simp [ms, mg]
  | succ i ih =>
    intro j v
    cases l with
    | nil =>
      cases j with
      | zero => simp [ms, mg]
      | succ j =>
        show mg d (ms d [] i v) j = _
        rw [ih]
        simp [mg]
    | cons a l =>
      cases j with
      | zero => simp [ms, mg]
      | succ j =>
        show mg d (ms d l i v) j = _
        rw [ih]
        simp [mg]
theorem am_nth_mmod {α : Type} : ∀ (l : List α) (i j : Nat) (f : α → α), am_nth (mmod l i f) j = if j = i then (am_nth l i).map f else am_nth l j := by
  intro l
  induction l with
  | nil =>
    intro i j f
    by_cases h : j = i
    · rw [if_pos h]; rfl
    · rw [if_neg h]; rfl
  | cons a l ih =>
    intro i j f
    cases i with
    | zero => cases j <;> simp [mmod, am_nth]
    | succ i =>
      cases j with
      | zero => simp [mmod, am_nth]
      | succ j =>
        show am_nth (mmod l i f) j = _
        rw [ih]
        simp [am_nth]
theorem mmod_len {α : Type} : ∀ (l : List α) (i : Nat) (f : α → α), (mmod l i f).length = l.length := by
  intro l
  induction l with
  | nil => intro i f; rfl
  | cons a l ih =>
    intro i f
    cases i with
    | zero => rfl
    | succ i => simp [mmod, ih]
theorem am_nth_app {α : Type} : ∀ (l : List α) (c : α) (j : Nat), am_nth (l ++ [c]) j = if j = l.length then some c else am_nth l j := by
  intro l
  induction l with
  | nil => intro c j; cases j <;> simp [am_nth]
  | cons a l ih =>
    intro c j
    cases j with
    | zero => simp [am_nth]
    | succ j =>
      show am_nth (l ++ [c]) j = _
      rw [ih]
      simp [am_nth]
theorem am_nth_none {α : Type} : ∀ (l : List α) (j : Nat), l.length ≤ j → am_nth l j = none := by
  intro l
  induction l with
  | nil => intro j _; rfl
  | cons a l ih =>
    intro j h
    cases j with
    | zero => simp at h
    | succ j => exact ih j (by simpa using h)
def mTk (T : List mC) (i : Nat) : Nat × Nat := match am_nth T i with
  | some c => (c.1, c.2.1)
  | none => (0, 0)
def mTa (T : List mC) (i j : Nat) : Int32 := match am_nth T i with
  | some c => mg 0 c.2.2.1 j
  | none => 0
def mTl (T : List mC) (i j : Nat) : Int64 := match am_nth T i with
  | some c => mg 0 c.2.2.2.1 j
  | none => 0
def mTf (T : List mC) (i j : Nat) : Nat := match am_nth T i with
  | some c => mg 15 c.2.2.2.2 j
  | none => 15
/-- the memory with the cells T of ours, n the next, sl slots made -/
def mT (L : Nat) (xs : Nat → Int32) (n : Nat) (T : List mC) (sl : Nat) : am_Mem := (n, sl, fun r => if r < 16 then am_kd (am_m0 L xs) r else mTk T (r - 16), fun r j => if r < 16 then am_A (am_m0 L xs) r j else mTa T (r - 16) j, fun r j => if r < 16 then 0 else mTl T (r - 16) j, fun r j => if r < 16 then 15 else mTf T (r - 16) j)
theorem am_mem_eq {μ ν : am_Mem} (h1 : am_n μ = am_n ν) (h2 : am_sl μ = am_sl ν) (h3 : ∀ r, am_kd μ r = am_kd ν r) (h4 : ∀ r j, am_A μ r j = am_A ν r j) (h5 : ∀ r j, am_L μ r j = am_L ν r j) (h6 : ∀ r j, am_F μ r j = am_F ν r j) : μ = ν := by
  obtain ⟨a1, a2, a3, a4, a5, a6⟩ := μ
  obtain ⟨b1, b2, b3, b4, b5, b6⟩ := ν
  have e1 : a1 = b1 := h1
  have e2 : a2 = b2 := h2
  have e3 : a3 = b3 := funext h3
  have e4 : a4 = b4 := funext fun r => funext fun j => h4 r j
  have e5 : a5 = b5 := funext fun r => funext fun j => h5 r j
  have e6 : a6 = b6 := funext fun r => funext fun j => h6 r j
  rw [e1, e2, e3, e4, e5, e6]
section MTT
variable {L : Nat} {xs : Nat → Int32} {n sl : Nat} {T : List mC}
theorem mT_0 : am_m0 L xs = mT L xs 16 [] 0 := by
  refine am_mem_eq rfl rfl (fun r => ?_) (fun r j => ?_) (fun r j => ?_) (fun r j => ?_)
  · show _ = if r < 16 then _ else _
    by_cases h : r < 16
    · rw [if_pos h]
    · rw [if_neg h]
      show (if r = 0 then (8, L) else if r = 1 then (8, 8) else if r = 3 then (10, 58) else (0, 0) : Nat × Nat) = (0, 0)
      rw [if_neg (by omega), if_neg (by omega), if_neg (by omega)]
  · show _ = if r < 16 then _ else _
    by_cases h : r < 16
    · rw [if_pos h]
    · rw [if_neg h]
      show (if r = 0 then xs j else if r = 1 then am_fixL.getD j 0 else if r = 3 then am_wrdL.getD j 0 else 0 : Int32) = 0
      rw [if_neg (by omega), if_neg (by omega), if_neg (by omega)]
  · show (0 : Int64) = if r < 16 then 0 else 0
    split <;> rfl
  · show 15 = if r < 16 then 15 else 15
    split <;> rfl
theorem mT_nA {t N : Nat} (hn : n = 16 + T.length) : am_nA (mT L xs n T sl) t N = mT L xs (n + 1) (T ++ [(t, N, [], [], [])]) (sl + N) := by
  refine am_mem_eq rfl rfl (fun r => ?_) (fun r j => ?_) (fun r j => ?_) (fun r j => ?_)
  · show am_u1 _ n (t, N) r = _
    unfold am_u1
    by_cases h : r = n
    · rw [if_pos h]
      show _ = if r < 16 then _ else mTk _ (r - 16)
      rw [if_neg (by omega)]
      unfold mTk
      rw [am_nth_app, if_pos (by omega)]
    · rw [if_neg h]
      show (if r < 16 then _ else mTk T (r - 16)) = if r < 16 then _ else mTk _ (r - 16)
      by_cases h16 : r < 16
      · rw [if_pos h16, if_pos h16]
      · rw [if_neg h16, if_neg h16]
        unfold mTk
        rw [am_nth_app, if_neg (by omega)]
  · show am_u1 _ n (fun _ => 0) r j = _
    unfold am_u1
    by_cases h : r = n
    · rw [if_pos h]
      show _ = if r < 16 then _ else mTa _ (r - 16) j
      rw [if_neg (by omega)]
      unfold mTa
      rw [am_nth_app, if_pos (by omega)]
      rfl
    · rw [if_neg h]
      show (if r < 16 then _ else mTa T (r - 16) j) = if r < 16 then _ else mTa _ (r - 16) j
      by_cases h16 : r < 16
      · rw [if_pos h16, if_pos h16]
      · rw [if_neg h16, if_neg h16]
        unfold mTa
        rw [am_nth_app, if_neg (by omega)]
  · show am_u1 _ n (fun _ => 0) r j = _
    unfold am_u1
    by_cases h : r = n
    · rw [if_pos h]
      show _ = if r < 16 then _ else mTl _ (r - 16) j
      rw [if_neg (by omega)]
      unfold mTl
      rw [am_nth_app, if_pos (by omega)]
      rfl
    · rw [if_neg h]
      show (if r < 16 then _ else mTl T (r - 16) j) = if r < 16 then _ else mTl _ (r - 16) j
      by_cases h16 : r < 16
      · rw [if_pos h16, if_pos h16]
      · rw [if_neg h16, if_neg h16]
        unfold mTl
        rw [am_nth_app, if_neg (by omega)]
  · show (if r < 16 then _ else mTf T (r - 16) j) = if r < 16 then _ else mTf _ (r - 16) j
    by_cases h16 : r < 16
    · rw [if_pos h16, if_pos h16]
    · rw [if_neg h16, if_neg h16]
      unfold mTf
      rw [am_nth_app]
      by_cases h : r - 16 = T.length
      · rw [if_pos h, am_nth_none T _ (by omega)]
        rfl
      · rw [if_neg h]
theorem mT_nO {ci N : Nat} (hn : n = 16 + T.length) : am_nO (mT L xs n T sl) ci N = mT L xs (n + 1) (T ++ [(1, ci, [], [], [])]) (sl + N) := by
  refine am_mem_eq rfl rfl (fun r => ?_) (fun r j => ?_) (fun r j => ?_) (fun r j => ?_)
  · show am_u1 _ n (1, ci) r = _
    unfold am_u1
    by_cases h : r = n
    · rw [if_pos h]
      show _ = if r < 16 then _ else mTk _ (r - 16)
      rw [if_neg (by omega)]
      unfold mTk
      rw [am_nth_app, if_pos (by omega)]
    · rw [if_neg h]
      show (if r < 16 then _ else mTk T (r - 16)) = if r < 16 then _ else mTk _ (r - 16)
      by_cases h16 : r < 16
      · rw [if_pos h16, if_pos h16]
      · rw [if_neg h16, if_neg h16]
        unfold mTk
        rw [am_nth_app, if_neg (by omega)]
  · show am_u1 _ n (fun _ => 0) r j = _
    unfold am_u1
    by_cases h : r = n
    · rw [if_pos h]
      show _ = if r < 16 then _ else mTa _ (r - 16) j
      rw [if_neg (by omega)]
      unfold mTa
      rw [am_nth_app, if_pos (by omega)]
      rfl
    · rw [if_neg h]
      show (if r < 16 then _ else mTa T (r - 16) j) = if r < 16 then _ else mTa _ (r - 16) j
      by_cases h16 : r < 16
      · rw [if_pos h16, if_pos h16]
      · rw [if_neg h16, if_neg h16]
        unfold mTa
        rw [am_nth_app, if_neg (by omega)]
  · show am_u1 _ n (fun _ => 0) r j = _
    unfold am_u1
    by_cases h : r = n
    · rw [if_pos h]
      show _ = if r < 16 then _ else mTl _ (r - 16) j
      rw [if_neg (by omega)]
      unfold mTl
      rw [am_nth_app, if_pos (by omega)]
      rfl
    · rw [if_neg h]
      show (if r < 16 then _ else mTl T (r - 16) j) = if r < 16 then _ else mTl _ (r - 16) j
      by_cases h16 : r < 16
      · rw [if_pos h16, if_pos h16]
      · rw [if_neg h16, if_neg h16]
        unfold mTl
        rw [am_nth_app, if_neg (by omega)]
  · show am_u1 _ n (fun _ => 15) r j = _
    unfold am_u1
    by_cases h : r = n
    · rw [if_pos h]
      show _ = if r < 16 then _ else mTf _ (r - 16) j
      rw [if_neg (by omega)]
      unfold mTf
      rw [am_nth_app, if_pos (by omega)]
      rfl
    · rw [if_neg h]
      show (if r < 16 then _ else mTf T (r - 16) j) = if r < 16 then _ else mTf _ (r - 16) j
      by_cases h16 : r < 16
      · rw [if_pos h16, if_pos h16]
      · rw [if_neg h16, if_neg h16]
        unfold mTf
        rw [am_nth_app, if_neg (by omega)]
theorem mT_pA {a f : Nat} {x : Int32} (ha : 16 ≤ a) (hT : ∃ c, am_nth T (a - 16) = some c) : am_pA (mT L xs n T sl) a f x = mT L xs n (mmod T (a - 16) (fun c => (c.1, c.2.1, ms 0 c.2.2.1 f x, c.2.2.2.1, c.2.2.2.2))) sl := by
  refine am_mem_eq rfl rfl (fun r => ?_) (fun r j => ?_) (fun r j => ?_) (fun r j => ?_)
  · show (if r < 16 then _ else mTk T (r - 16)) = if r < 16 then _ else mTk _ (r - 16)
    by_cases h16 : r < 16
    · rw [if_pos h16, if_pos h16]
    · rw [if_neg h16, if_neg h16]
      unfold mTk
      rw [am_nth_mmod]
      by_cases h : r - 16 = a - 16
      · rw [if_pos h, h]
        cases am_nth T (a - 16) <;> rfl
      · rw [if_neg h]
  · show am_u2 _ a f x r j = _
    unfold am_u2
    by_cases h16 : r < 16
    · rw [if_neg (by omega)]
      show (if r < 16 then _ else _) = if r < 16 then _ else _
      rw [if_pos h16, if_pos h16]
    · show _ = if r < 16 then _ else mTa _ (r - 16) j
      rw [if_neg h16]
      unfold mTa
      rw [am_nth_mmod]
      by_cases h : r - 16 = a - 16
      · rw [if_pos h]
        obtain rfl : r = a := by omega
        obtain ⟨c, hc⟩ := hT
        rw [hc]
        show _ = mg _ (ms _ _ f x) j
        rw [mg_ms]
        by_cases hj : j = f
        · rw [if_pos ⟨rfl, hj⟩, if_pos hj]
        · rw [if_neg (fun q => hj q.2), if_neg hj]
          show (if r < 16 then _ else mTa T (r - 16) j) = _
          rw [if_neg h16]
          unfold mTa
          rw [hc]
      · rw [if_neg h, if_neg (fun q => h (by rw [q.1]))]
        show (if r < 16 then _ else mTa T (r - 16) j) = _
        rw [if_neg h16]
        rfl
  · show (if r < 16 then _ else mTl T (r - 16) j) = if r < 16 then _ else mTl _ (r - 16) j
    by_cases h16 : r < 16
    · rw [if_pos h16, if_pos h16]
    · rw [if_neg h16, if_neg h16]
      unfold mTl
      rw [am_nth_mmod]
      by_cases h : r - 16 = a - 16
      · rw [if_pos h, h]
        cases am_nth T (a - 16) <;> rfl
      · rw [if_neg h]
  · show (if r < 16 then _ else mTf T (r - 16) j) = if r < 16 then _ else mTf _ (r - 16) j
    by_cases h16 : r < 16
    · rw [if_pos h16, if_pos h16]
    · rw [if_neg h16, if_neg h16]
      unfold mTf
      rw [am_nth_mmod]
      by_cases h : r - 16 = a - 16
      · rw [if_pos h, h]
        cases am_nth T (a - 16) <;> rfl
      · rw [if_neg h]
theorem mT_pL {a f : Nat} {x : Int64} (ha : 16 ≤ a) (hT : ∃ c, am_nth T (a - 16) = some c) : am_pL (mT L xs n T sl) a f x = mT L xs n (mmod T (a - 16) (fun c => (c.1, c.2.1, c.2.2.1, ms 0 c.2.2.2.1 f x, c.2.2.2.2))) sl := by
  refine am_mem_eq rfl rfl (fun r => ?_) (fun r j => ?_) (fun r j => ?_) (fun r j => ?_)
  · show (if r < 16 then _ else mTk T (r - 16)) = if r < 16 then _ else mTk _ (r - 16)
    by_cases h16 : r < 16
    · rw [if_pos h16, if_pos h16]
    · rw [if_neg h16, if_neg h16]
      unfold mTk
      rw [am_nth_mmod]
      by_cases h : r - 16 = a - 16
      · rw [if_pos h, h]
        cases am_nth T (a - 16) <;> rfl
      · rw [if_neg h]
  · show (if r < 16 then _ else mTa T (r - 16) j) = if r < 16 then _ else mTa _ (r - 16) j
    by_cases h16 : r < 16
    · rw [if_pos h16, if_pos h16]
    · rw [if_neg h16, if_neg h16]
      unfold mTa
      rw [am_nth_mmod]
      by_cases h : r - 16 = a - 16
      · rw [if_pos h, h]
        cases am_nth T (a - 16) <;> rfl
      · rw [if_neg h]
  · show am_u2 _ a f x r j = _
    unfold am_u2
    by_cases h16 : r < 16
    · rw [if_neg (by omega)]
      show (if r < 16 then _ else _) = if r < 16 then _ else _
      rw [if_pos h16, if_pos h16]
    · show _ = if r < 16 then _ else mTl _ (r - 16) j
      rw [if_neg h16]
      unfold mTl
      rw [am_nth_mmod]
      by_cases h : r - 16 = a - 16
      · rw [if_pos h]
        obtain rfl : r = a := by omega
        obtain ⟨c, hc⟩ := hT
        rw [hc]
        show _ = mg _ (ms _ _ f x) j
        rw [mg_ms]
        by_cases hj : j = f
        · rw [if_pos ⟨rfl, hj⟩, if_pos hj]
        · rw [if_neg (fun q => hj q.2), if_neg hj]
          show (if r < 16 then _ else mTl T (r - 16) j) = _
          rw [if_neg h16]
          unfold mTl
          rw [hc]
      · rw [if_neg h, if_neg (fun q => h (by rw [q.1]))]
        show (if r < 16 then _ else mTl T (r - 16) j) = _
        rw [if_neg h16]
        rfl
  · show (if r < 16 then _ else mTf T (r - 16) j) = if r < 16 then _ else mTf _ (r - 16) j
    by_cases h16 : r < 16
    · rw [if_pos h16, if_pos h16]
    · rw [if_neg h16, if_neg h16]
      unfold mTf
      rw [am_nth_mmod]
      by_cases h : r - 16 = a - 16
      · rw [if_pos h, h]
        cases am_nth T (a - 16) <;> rfl
      · rw [if_neg h]
theorem mT_pR {a f : Nat} {x : Nat} (ha : 16 ≤ a) (hT : ∃ c, am_nth T (a - 16) = some c) : am_pR (mT L xs n T sl) a f x = mT L xs n (mmod T (a - 16) (fun c => (c.1, c.2.1, c.2.2.1, c.2.2.2.1, ms 15 c.2.2.2.2 f x))) sl := by
  refine am_mem_eq rfl rfl (fun r => ?_) (fun r j => ?_) (fun r j => ?_) (fun r j => ?_)
  · show (if r < 16 then _ else mTk T (r - 16)) = if r < 16 then _ else mTk _ (r - 16)
    by_cases h16 : r < 16
    · rw [if_pos h16, if_pos h16]
    · rw [if_neg h16, if_neg h16]
      unfold mTk
      rw [am_nth_mmod]
      by_cases h : r - 16 = a - 16
      · rw [if_pos h, h]
        cases am_nth T (a - 16) <;> rfl
      · rw [if_neg h]
  · show (if r < 16 then _ else mTa T (r - 16) j) = if r < 16 then _ else mTa _ (r - 16) j
    by_cases h16 : r < 16
    · rw [if_pos h16, if_pos h16]
    · rw [if_neg h16, if_neg h16]
      unfold mTa
      rw [am_nth_mmod]
      by_cases h : r - 16 = a - 16
      · rw [if_pos h, h]
        cases am_nth T (a - 16) <;> rfl
      · rw [if_neg h]
  · show (if r < 16 then _ else mTl T (r - 16) j) = if r < 16 then _ else mTl _ (r - 16) j
    by_cases h16 : r < 16
    · rw [if_pos h16, if_pos h16]
    · rw [if_neg h16, if_neg h16]
      unfold mTl
      rw [am_nth_mmod]
      by_cases h : r - 16 = a - 16
      · rw [if_pos h, h]
        cases am_nth T (a - 16) <;> rfl
      · rw [if_neg h]
  · show am_u2 _ a f x r j = _
    unfold am_u2
    by_cases h16 : r < 16
    · rw [if_neg (by omega)]
      show (if r < 16 then _ else _) = if r < 16 then _ else _
      rw [if_pos h16, if_pos h16]
    · show _ = if r < 16 then _ else mTf _ (r - 16) j
      rw [if_neg h16]
      unfold mTf
      rw [am_nth_mmod]
      by_cases h : r - 16 = a - 16
      · rw [if_pos h]
        obtain rfl : r = a := by omega
        obtain ⟨c, hc⟩ := hT
        rw [hc]
        show _ = mg _ (ms _ _ f x) j
        rw [mg_ms]
        by_cases hj : j = f
        · rw [if_pos ⟨rfl, hj⟩, if_pos hj]
        · rw [if_neg (fun q => hj q.2), if_neg hj]
          show (if r < 16 then _ else mTf T (r - 16) j) = _
          rw [if_neg h16]
          unfold mTf
          rw [hc]
      · rw [if_neg h, if_neg (fun q => h (by rw [q.1]))]
        show (if r < 16 then _ else mTf T (r - 16) j) = _
        rw [if_neg h16]
        rfl
theorem mT_nX (hn : n = 16 + T.length) : am_nX (mT L xs n T sl) = mT L xs (n + 1) (T ++ [(0, 0, [], [], [])]) (sl + 6) := by
  refine am_mem_eq rfl rfl (fun r => ?_) (fun r j => ?_) (fun r j => ?_) (fun r j => ?_)
  · show (if r < 16 then _ else mTk T (r - 16)) = if r < 16 then _ else mTk _ (r - 16)
    by_cases h16 : r < 16
    · rw [if_pos h16, if_pos h16]
    · rw [if_neg h16, if_neg h16]
      unfold mTk
      rw [am_nth_app]
      by_cases h : r - 16 = T.length
      · rw [if_pos h, am_nth_none T _ (by omega)] <;> rfl
      · rw [if_neg h]
  · show (if r < 16 then _ else mTa T (r - 16) j) = if r < 16 then _ else mTa _ (r - 16) j
    by_cases h16 : r < 16
    · rw [if_pos h16, if_pos h16]
    · rw [if_neg h16, if_neg h16]
      unfold mTa
      rw [am_nth_app]
      by_cases h : r - 16 = T.length
      · rw [if_pos h, am_nth_none T _ (by omega)] <;> rfl
      · rw [if_neg h]
  · show (if r < 16 then _ else mTl T (r - 16) j) = if r < 16 then _ else mTl _ (r - 16) j
    by_cases h16 : r < 16
    · rw [if_pos h16, if_pos h16]
    · rw [if_neg h16, if_neg h16]
      unfold mTl
      rw [am_nth_app]
      by_cases h : r - 16 = T.length
      · rw [if_pos h, am_nth_none T _ (by omega)] <;> rfl
      · rw [if_neg h]
  · show (if r < 16 then _ else mTf T (r - 16) j) = if r < 16 then _ else mTf _ (r - 16) j
    by_cases h16 : r < 16
    · rw [if_pos h16, if_pos h16]
    · rw [if_neg h16, if_neg h16]
      unfold mTf
      rw [am_nth_app]
      by_cases h : r - 16 = T.length
      · rw [if_pos h, am_nth_none T _ (by omega)] <;> rfl
      · rw [if_neg h]
end MTT
