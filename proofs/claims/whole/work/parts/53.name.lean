/-! ===== the reference's names ===== -/
/-- rows written from a place on -/
def upL (m : PM) (c : Nat) : Int → List Int → PM
  | _, [] => m
  | i, w :: ws => upL (up m c i w) c (i + 1) ws
theorem upL_o {c c' : Nat} {i' : Int} : ∀ (ws : List Int) (m : PM) (i : Int), (¬ c' = c ∨ i' < i ∨ i + ws.length ≤ i') → upL m c i ws c' i' = m c' i' := by
  intro ws
  induction ws with
  | nil => intro m i _; rfl
  | cons w ws ih =>
    intro m i h
    have hl : ((w :: ws).length : Int) = ws.length + 1 := by simp
    show upL (up m c i w) c (i + 1) ws c' i' = _
    rw [ih (up m c i w) (i + 1) (by omega)]
    exact up_o (by omega)
theorem upL_g {c : Nat} : ∀ (ws : List Int) (m : PM) (i : Int) (j : Nat), j < ws.length → upL m c i ws c (i + j) = ws.getD j 0 := by
  intro ws
  induction ws with
  | nil => intro m i j h; exact absurd h (by simp)
  | cons w ws ih =>
    intro m i j h
    show upL (up m c i w) c (i + 1) ws c (i + j) = _
    cases j with
    | zero =>
      rw [upL_o ws _ _ (by omega)]
      have e : i + ((0 : Nat) : Int) = i := by omega
      rw [e, up_s]
      rfl
    | succ j =>
      have e : i + ((j + 1 : Nat) : Int) = i + 1 + (j : Int) := by omega
      rw [e, ih _ _ j (by simpa using h)]
      rfl
theorem upL_snoc {c : Nat} : ∀ (ws : List Int) (m : PM) (i w : Int), upL m c i (ws ++ [w]) = up (upL m c i ws) c (i + ws.length) w := by
  intro ws
  induction ws with
  | nil => intro m i w; show up m c i w = up m c (i + ((0 : Nat) : Int)) w; rw [show i + ((0 : Nat) : Int) = i by omega]
  | cons v ws ih =>
    intro m i w
    show upL (up m c i v) c (i + 1) (ws ++ [w]) = up (upL (up m c i v) c (i + 1) ws) c (i + ((v :: ws).length : Nat)) w
    rw [ih]
    have e : i + 1 + (ws.length : Int) = i + ((v :: ws).length : Nat) := by simp; omega
    rw [e]
/-- signs from a place on -/
def sl (t : Int → Int) (p : Int) (k : Nat) : List Int := (List.range k).map fun (j : Nat) => t (p + (j : Int))
theorem sl_len (t : Int → Int) (p : Int) (k : Nat) : (sl t p k).length = k := by simp [sl]
theorem sl_get (t : Int → Int) (p : Int) (k j : Nat) (h : j < k) : (sl t p k).getD j 0 = t (p + j) := by
  simp [sl, h, List.getD_eq_getElem?_getD, List.getElem?_map, List.getElem?_range]
theorem sl_succ (t : Int → Int) (p : Int) (k : Nat) : sl t p (k + 1) = sl t p k ++ [t (p + k)] := by
  simp [sl, List.range_succ]
theorem sl_eq {t t' : Int → Int} {p p' : Int} {k k' : Nat} : sl t p k = sl t' p' k' ↔ k = k' ∧ ∀ j : Nat, j < k → t (p + j) = t' (p' + j) := by
  constructor
  · intro h
    have hk : k = k' := by
      have := congrArg List.length h
      rwa [sl_len, sl_len] at this
    subst hk
    refine ⟨rfl, fun j hj => ?_⟩
    rw [← sl_get t p k j hj, ← sl_get t' p' k j hj, h]
  · rintro ⟨rfl, h⟩
    unfold sl
    apply List.map_congr_left
    intro j hj
    exact h j (List.mem_range.mp hj)
/-- name k of the table -/
def nmR (m : PM) (k : Nat) : List Int := sl (m 129) (16 * (k : Int)) (m 130 k).toNat
/-- the first place from k on, f places looked at, where w stands -/
def nix (nm : Nat → List Int) (w : List Int) : Nat → Nat → Nat
  | 0, k => k
  | f + 1, k => if nm k = w then k else nix nm w f (k + 1)
theorem nix_le (nm : Nat → List Int) (w : List Int) : ∀ f k, k ≤ nix nm w f k ∧ nix nm w f k ≤ k + f := by
  intro f
  induction f with
  | zero => intro k; exact ⟨Nat.le_refl _, Nat.le_refl _⟩
  | succ f ih =>
    intro k
    have := ih (k + 1)
    unfold nix
    split
    all_goals omega
theorem nix_is (nm : Nat → List Int) (w : List Int) : ∀ f k, nix nm w f k < k + f → nm (nix nm w f k) = w := by
  intro f
  induction f with
  | zero => intro k h; exact absurd h (by unfold nix; omega)
  | succ f ih =>
    intro k h
    unfold nix at h ⊢
    split
    · assumption
    · rename_i q
      rw [if_neg q] at h
      exact ih (k + 1) (by omega)
theorem nix_no (nm : Nat → List Int) (w : List Int) : ∀ f k, ∀ j, k ≤ j → j < nix nm w f k → ¬ nm j = w := by
  intro f
  induction f with
  | zero => intro k j h1 h2; exact absurd h2 (by unfold nix; omega)
  | succ f ih =>
    intro k j h1 h2
    unfold nix at h2
    split at h2
    · omega
    · by_cases e : j = k
      · rw [e]; assumption
      · exact ih (k + 1) j (by omega) h2
/-- the table of names: how many, their lengths -/
def NmT (m : PM) (N : Nat) : Prop := m 125 9 = N ∧ N ≤ 1099 ∧ ∀ k : Nat, k < N → 0 ≤ m 130 k ∧ m 130 k ≤ 16 ∧ ∀ j : Nat, (j : Int) < m 130 k → iR (m 129 (16 * (k : Int) + j))
/-- the memory with one more name -/
def adN (m : PM) (w : List Int) : PM := up (up (upL m 129 (16 * m 125 9) w) 130 (m 125 9) w.length) 125 9 (m 125 9 + 1)
section NOF
variable {d : Nat} {Q : Option Value ⊕ Nat → am_Mem → Prop} {μ : am_Mem} {m l : PM} {a b : Int} {N k len : Nat}
theorem nameOf_32 (H : RS μ) (T : TX m) (hN : NmT m N) (hk : k < N) (hb : b - a = len) (ha : 0 ≤ a ∧ b ≤ 2000) (hl : m 130 k = len) (hyes : nmR m k = sl (m 128) a len → Q (.inl (some (.int (zI k)))) (sA μ m l))
    (hno : ¬ nmR m k = sl (m 128) a len → ∀ x4 x5 : Int, Wp d 165 (2, [some (.ref 125), some (.int (zI a)), some (.int (zI b)), some (.int (zI (k + 1))), some (.int (zI x4)), some (.int (zI x5))], [], sA μ m l) Q) :
    ∀ (r : Nat) (j : Nat), j + r = len → (∀ i : Nat, i < j → m 129 (16 * (k : Int) + i) = m 128 (a + i)) → Wp d 165 (32, [some (.ref 125), some (.int (zI a)), some (.int (zI b)), some (.int (zI k)), some (.int (zI 1)), some (.int (zI j))], [], sA μ m l) Q := by
  obtain ⟨h1, h2, h3⟩ := hN
  obtain ⟨h4, h5, h6⟩ := h3 k hk
  intro r
  induction r with
  | zero =>
    intro j hj hs
    refine R165_32 H ⟨by omega, by omega, fun _ => ⟨by omega, fun z => absurd z (by decide), fun _ => hyes ?_⟩, fun z => absurd (by omega) z⟩
    unfold nmR
    rw [sl_eq]
    exact ⟨by omega, fun i hi => hs i (by omega)⟩
  | succ r ih =>
    intro j hj hs
    have h7 := h6 j (by omega)
    have h8 := T.2.2 (a + j)
    refine R165_32 H ⟨by omega, by omega, fun z => absurd z (by omega), fun _ => ⟨by omega, fun z => absurd z (by decide), fun _ => ⟨by omega, by omega, h7, by omega, ?_⟩⟩⟩
    by_cases q : m 129 (16 * (k : Int) + j) = m 128 (a + j)
    · rw [if_neg (fun z => z q)]
      have e : ((j : Int) + 1) = ((j + 1 : Nat) : Int) := by omega
      rw [e]
      refine ih (j + 1) (by omega) (fun i hi => ?_)
      by_cases z : i = j
      · rw [z]; exact q
      · exact hs i (by omega)
    · rw [if_pos q]
      have hn : ¬ nmR m k = sl (m 128) a len := by
        intro z
        unfold nmR at z
        rw [sl_eq] at z
        exact q (z.2 j (by omega))
      refine R165_32 H ⟨by omega, by omega, fun _ => ⟨by omega, fun _ => hno hn _ _, fun z => absurd rfl z⟩, fun _ => ⟨by omega, fun _ => ⟨fun _ => hno hn _ _, fun z => absurd rfl z⟩, fun z => absurd rfl z⟩⟩
theorem nameOf_97 (H : RS μ) (hb : b - a = len) (hl : len ≤ 16) (ha : 0 ≤ a ∧ b ≤ 2000) {o4 o5 : Option Value} (N : Nat) (hN : m 125 9 = N) (hN2 : N ≤ 1099) (h : Q (.inl (some (.int (zI N)))) (sA μ (adN m (sl (m 128) a len)) l)) :
    ∀ (r j : Nat), j + r = len → Wp d 165 (97, [some (.ref 125), some (.int (zI a)), some (.int (zI b)), some (.int (zI j)), o4, o5], [], sA μ (upL m 129 (16 * (N : Int)) (sl (m 128) a j)) l) Q := by
  intro r
  induction r with
  | zero =>
    intro j hj
    obtain rfl : j = len := by omega
    have e9 : upL m 129 (16 * (N : Int)) (sl (m 128) a j) 125 9 = N := by rw [upL_o _ _ _ (Or.inl (by decide))]; exact hN
    refine R165_97 H ?_
    rw [e9]
    refine ⟨by omega, by omega, fun _ => ⟨by omega, ?_⟩, fun z => absurd (by omega) z⟩
    have e : ((N : Int) + 1 - 1) = N := by omega
    rw [e]
    have e2 : adN m (sl (m 128) a j) = up (up (upL m 129 (16 * (N : Int)) (sl (m 128) a j)) 130 N (b - a)) 125 9 ((N : Int) + 1) := by
      unfold adN
      rw [hN, sl_len, hb]
    rw [e2] at h
    rintro m1 rfl
    exact h
  | succ r ih =>
    intro j hj
    have e9 : upL m 129 (16 * (N : Int)) (sl (m 128) a j) 125 9 = N := by rw [upL_o _ _ _ (Or.inl (by decide))]; exact hN
    have e8 : upL m 129 (16 * (N : Int)) (sl (m 128) a j) 128 (a + j) = m 128 (a + j) := upL_o _ _ _ (Or.inl (by decide))
    refine R165_97 H ?_
    rw [e9, e8]
    refine ⟨by omega, by omega, fun z => absurd z (by omega), fun _ => ⟨by omega, by omega, ?_⟩⟩
    have := ih (j + 1) (by omega)
    rw [sl_succ, upL_snoc, sl_len] at this
    rintro m2 rfl
    exact this
theorem nameOf_2 (H : RS μ) (T : TX m) (hN : NmT m N) (hb : b - a = len) (hl : len ≤ 16) (ha : 0 ≤ a ∧ b ≤ 2000) (w : List Int) (hw : w = sl (m 128) a len)
    (hf : nix (nmR m) w N 0 < N → Q (.inl (some (.int (zI (nix (nmR m) w N 0))))) (sA μ m l)) (hn : nix (nmR m) w N 0 = N → Q (.inl (some (.int (zI N)))) (sA μ (adN m w) l)) :
    ∀ (r k : Nat) (o4 o5 : Option Value), k + r = N → nix (nmR m) w N 0 = nix (nmR m) w r k → Wp d 165 (2, [some (.ref 125), some (.int (zI a)), some (.int (zI b)), some (.int (zI k)), o4, o5], [], sA μ m l) Q := by
  have hN0 := hN
  obtain ⟨h1, h2, h3⟩ := hN
  intro r
  induction r with
  | zero =>
    intro k o4 o5 hk hi
    have e : nix (nmR m) w N 0 = N := by rw [hi]; show k = N; omega
    refine R165_2 H ⟨by omega, by omega, fun _ => ?_, fun z => absurd (by omega) z⟩
    have := nameOf_97 (l := l) (d := d) (Q := Q) H hb hl ha (o4 := o4) (o5 := o5) N h1 h2 (by rw [← hw]; exact hn e) len 0 (by omega)
    exact this
  | succ r ih =>
    intro k o4 o5 hk hi
    have hkN : k < N := by omega
    obtain ⟨h4, h5, h6⟩ := h3 k hkN
    have hstep : ¬ nmR m k = w → nix (nmR m) w N 0 = nix (nmR m) w r (k + 1) := by
      intro q
      rw [hi]
      show (if nmR m k = w then k else nix (nmR m) w r (k + 1)) = _
      rw [if_neg q]
    have e : ((k : Int) + 1) = ((k + 1 : Nat) : Int) := by omega
    refine R165_2 H ⟨by omega, by omega, fun z => absurd z (by omega), fun _ => ⟨by omega, by omega, by omega, ?_⟩⟩
    by_cases q : m 130 k = len
    · rw [if_neg (fun z => z (by omega))]
      refine nameOf_32 H T hN0 hkN hb ha q (fun z => ?_) (fun z x4 x5 => ?_) len 0 (by omega) (fun i hi => absurd hi (by omega))
      · have e2 : nix (nmR m) w N 0 = k := by
          rw [hi]
          show (if nmR m k = w then k else nix (nmR m) w r (k + 1)) = _
          rw [if_pos (by rw [hw]; exact z)]
        have := hf (by omega)
        rw [e2] at this
        exact this
      · rw [e]
        exact ih (k + 1) _ _ (by omega) (hstep (by rw [hw]; exact z))
    · rw [if_pos (by omega)]
      have hz : ¬ nmR m k = w := by
        intro z
        rw [hw] at z
        unfold nmR at z
        rw [sl_eq] at z
        omega
      refine R165_32 H ⟨by omega, by omega, fun _ => ⟨by omega, fun _ => ?_, fun z => absurd rfl z⟩, fun _ => ⟨by omega, fun _ => ⟨fun _ => ?_, fun z => absurd rfl z⟩, fun z => absurd rfl z⟩⟩
      all_goals
        rw [e]
        exact ih (k + 1) _ _ (by omega) (hstep hz)
/-- the number of a name, and the memory with it -/
def nmI (m : PM) (a b : Int) : Nat := nix (nmR m) (sl (m 128) a (b - a).toNat) (m 125 9).toNat 0
def nmM (m : PM) (a b : Int) : PM := if (nmI m a b : Int) < m 125 9 then m else adN m (sl (m 128) a (b - a).toNat)
theorem c_nameOf (H : RS μ) (T : TX m) (hN : NmT m (m 125 9).toNat) (g : 0 ≤ a ∧ a ≤ b ∧ b ≤ a + 16 ∧ b ≤ 2000) : Wp d 165 (0, [some (.ref 125), some (.int (zI a)), some (.int (zI b)), none, none, none], [], sA μ m l) (pI (fun y μ' => y = zI (nmI m a b) ∧ μ' = sA μ (nmM m a b) l) noX) := by
  have h1 := hN.1
  have hle := nix_le (nmR m) (sl (m 128) a (b - a).toNat) (m 125 9).toNat 0
  refine R165_0 H (nameOf_2 H T hN (len := (b - a).toNat) (by omega) (by omega) (by omega) _ rfl (fun z => ?_) (fun z => ?_) _ 0 _ _ (by omega) rfl)
  · refine ⟨rfl, ?_⟩
    have e : nmM m a b = m := if_pos (by unfold nmI; omega)
    rw [e]
  · have e0 : nmI m a b = (m 125 9).toNat := z
    refine ⟨by rw [e0], ?_⟩
    have e : nmM m a b = adN m (sl (m 128) a (b - a).toNat) := if_neg (by rw [e0]; omega)
    rw [e]
end NOF
