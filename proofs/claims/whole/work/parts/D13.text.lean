/-! ===== the text of a term ===== -/
/-- what follows a term: spaces and closing parentheses, by how many parts are still to come in each that is open -/
def cls : List Nat → List Int × List Nat
  | [] => ([], [])
  | 0 :: st => (41 :: (cls st).1, (cls st).2)
  | (k + 1) :: st => ([32], k :: st)
/-- the text of codes -/
def txS : List Cd → List Nat → List Int
  | [], _ => []
  | (n, w) :: cs, st => if n = 0 then w ++ (cls st).1 ++ txS cs (cls st).2 else 40 :: (w ++ 32 :: txS cs ((n - 1) :: st))
def tx (cs : List Cd) : List Int := txS cs []
/-- no variable is in it -/
def gnd (cs : List Cd) : Prop := ∀ c, c ∈ cs → c.1 < 5
/-- the parts of a name, each with its space -/
def txP (ps : List (List Cd)) : List Int := (ps.map fun p => 32 :: tx p).flatten
theorem txS_parts {f : Nat} (ih : ∀ (p rest : List Cd) (st : List Nat), wfS f p → gnd p → txS (p ++ rest) st = tx p ++ (cls st).1 ++ txS rest (cls st).2) : ∀ (ps : List (List Cd)) (rest : List Cd) (st : List Nat), (∀ p, p ∈ ps → wfS f p ∧ gnd p) → 1 ≤ ps.length → 32 :: txS (ps.flatten ++ rest) ((ps.length - 1) :: st) = txP ps ++ 41 :: ((cls st).1 ++ txS rest (cls st).2) := by
  intro ps
  induction ps with
  | nil => intro rest st _ h; exact absurd h (by decide)
  | cons p ps ihp =>
    intro rest st h _
    have hp := h p List.mem_cons_self
    rw [List.flatten_cons, List.append_assoc, ih p _ _ hp.1 hp.2]
    have e : txP (p :: ps) = (32 :: tx p) ++ txP ps := by
      unfold txP
      rw [List.map_cons, List.flatten_cons]
    rw [e, List.length_cons, Nat.add_sub_cancel]
    cases ps with
    | nil =>
      show 32 :: (tx p ++ (41 :: (cls st).1) ++ txS ([] ++ rest) (cls st).2) = (32 :: tx p) ++ [] ++ 41 :: ((cls st).1 ++ txS rest (cls st).2)
      simp
    | cons p' ps' =>
      have z := ihp rest st (fun q hq => h q (List.mem_cons_of_mem _ hq)) (by rw [List.length_cons]; omega)
      have eR : (32 :: tx p) ++ txP (p' :: ps') ++ 41 :: ((cls st).1 ++ txS rest (cls st).2) = 32 :: (tx p ++ (txP (p' :: ps') ++ 41 :: ((cls st).1 ++ txS rest (cls st).2))) := by
        rw [List.append_assoc, List.cons_append]
      rw [eR, ← z]
      show 32 :: (tx p ++ [32] ++ txS ((p' :: ps').flatten ++ rest) (ps'.length :: st)) = 32 :: (tx p ++ (32 :: txS ((p' :: ps').flatten ++ rest) (ps'.length :: st)))
      rw [List.append_assoc]
      rfl
theorem txS_app : ∀ (f : Nat) (p rest : List Cd) (st : List Nat), wfS f p → gnd p → txS (p ++ rest) st = tx p ++ (cls st).1 ++ txS rest (cls st).2 := by
  intro f
  induction f with
  | zero => intro p rest st h; exact absurd h (fun z => z)
  | succ f ih =>
    intro p rest st h hg
    cases p with
    | nil => exact absurd h (fun z => z)
    | cons c cs =>
      obtain ⟨n, w⟩ := c
      have hn : ¬ 5 ≤ n := by
        have := hg (n, w) List.mem_cons_self
        show ¬ 5 ≤ (n, w).1
        omega
      obtain ⟨ps, h1, h2, h3⟩ := (wfS_n hn).mp h
      have hgp : ∀ q, q ∈ ps → wfS f q ∧ gnd q := fun q hq => ⟨h3 q hq, fun c hc => hg c (List.mem_cons_of_mem _ (by rw [← h2]; exact List.mem_flatten.mpr ⟨q, hq, hc⟩))⟩
      by_cases n0 : n = 0
      · have ep : ps = [] := List.eq_nil_of_length_eq_zero (by omega)
        have ec : cs = [] := by rw [← h2, ep]; rfl
        rw [ec, n0]
        show txS ((0, w) :: rest) st = txS [(0, w)] [] ++ (cls st).1 ++ txS rest (cls st).2
        simp [txS, cls]
      · have z1 := txS_parts ih ps rest st hgp (by omega)
        have z2 := txS_parts ih ps [] [] hgp (by omega)
        rw [List.append_nil] at z2
        have e1 : txS ((n, w) :: cs ++ rest) st = 40 :: (w ++ 32 :: txS (ps.flatten ++ rest) ((ps.length - 1) :: st)) := by
          rw [List.cons_append, h2, h1]
          simp [txS, n0]
        have e2 : tx ((n, w) :: cs) = 40 :: (w ++ 32 :: txS ps.flatten ((ps.length - 1) :: [])) := by
          rw [h2, h1]
          simp [tx, txS, n0]
        rw [e1, e2, z1, z2]
        simp [cls, txS]
/-- the text of a name without parts, and with some -/
theorem tx_0 (w : List Int) : tx [(0, w)] = w := by simp [tx, txS, cls]
theorem tx_n {f : Nat} {ps : List (List Cd)} {w : List Int} (h1 : 1 ≤ ps.length) (h : ∀ p, p ∈ ps → wfS f p ∧ gnd p) : tx ((ps.length, w) :: ps.flatten) = 40 :: (w ++ txP ps ++ [41]) := by
  have z := txS_parts (txS_app f) ps [] [] h h1
  rw [List.append_nil] at z
  have e2 : tx ((ps.length, w) :: ps.flatten) = 40 :: (w ++ 32 :: txS ps.flatten ((ps.length - 1) :: [])) := by
    have : ¬ ps.length = 0 := by omega
    simp [tx, txS, this]
  rw [e2, z]
  simp [cls, txS]
