/-! ===== the class's names: where a name's way begins ===== -/
/-- the sum of the first n signs of a row -/
def nmS (g : Nat → Int32) : Nat → Int32
  | 0 => Int32.ofInt 0
  | n + 1 => ((Int8.ofInt 31).toInt32) * nmS g n + g n
/-- the place where the way begins -/
def nmP (g : Nat → Int32) (n : Nat) : Int32 := (nmS g n ^^^ (((nmS g n).toUInt32 >>> (((Int8.ofInt 11).toInt32).toUInt32 &&& Int32.toUInt32 31)).toInt32)) &&& ((Int16.ofInt 2047).toInt32)
theorem nmS_eq {g g' : Nat → Int32} : ∀ n, (∀ j, j < n → g j = g' j) → nmS g n = nmS g' n := by
  intro n
  induction n with
  | zero => intro _; rfl
  | succ n ih =>
    intro h
    show ((Int8.ofInt 31).toInt32) * nmS g n + g n = ((Int8.ofInt 31).toInt32) * nmS g' n + g' n
    rw [ih (fun j hj => h j (by omega)), h n (by omega)]
theorem nmP_lt (g : Nat → Int32) (n : Nat) : ∃ t, t < 2048 ∧ nmP g n = nI t := pk_andE _ (m := (Int16.ofInt 2047).toInt32) 11 (by decide)
section HSH
variable {d a t tn b n : Nat} {μ : am_Mem} {Q : Option Value ⊕ Nat → am_Mem → Prop}
theorem intern_h (ht : am_kd μ t = (5, tn)) (hb : b + n ≤ tn) (htn : tn < 2 ^ 31) (hq : Wp d 49 (49, [some (.ref a), some (.ref t), some (.int (nI b)), some (.int (nI n)), some (.int (nmS (fun j => am_A μ t (b + j)) n)), some (.int (nmP (fun j => am_A μ t (b + j)) n)), some (.int (nI 0)), none], [], μ) Q) :
    ∀ m i, i + m = n → Wp d 49 (6, [some (.ref a), some (.ref t), some (.int (nI b)), some (.int (nI n)), some (.int (nmS (fun j => am_A μ t (b + j)) i)), some (.int (nI i)), none, none], [], μ) Q := by
  intro m
  induction m with
  | zero =>
    intro i hi
    obtain rfl : i = n := by omega
    exact b49_6 (fun _ => b49_32 hq) (fun q => absurd (nI_le (Nat.le_refl i) (by omega)) q)
  | succ m ih =>
    intro i hi
    have hin : i < n := by omega
    refine b49_6 (fun q => absurd q (nI_ge hin (by omega))) (fun _ => ?_)
    refine b49_12 (by rw [ht]) (by rw [nI_add, ht]; exact nI_inn (by omega) htn) ?_
    rw [nI_add, nI_clamp (by omega), ni1]
    exact ih (i + 1) (by omega)
theorem intern_0 (ht : am_kd μ t = (5, tn)) (hb : b + n ≤ tn) (htn : tn < 2 ^ 31) (hq : Wp d 49 (49, [some (.ref a), some (.ref t), some (.int (nI b)), some (.int (nI n)), some (.int (nmS (fun j => am_A μ t (b + j)) n)), some (.int (nmP (fun j => am_A μ t (b + j)) n)), some (.int (nI 0)), none], [], μ) Q) :
    Wp d 49 (0, [some (.ref a), some (.ref t), some (.int (nI b)), some (.int (nI n)), none, none, none, none], [], μ) Q := b49_0 (intern_h ht hb htn hq n 0 (by omega))
end HSH
