/-! ===== the reference's terms: made, one node ===== -/
theorem TtI_cg {m m' : PM} {T : Nat} (e42 : m' 125 42 = m 125 42) (e149 : ∀ t : Nat, t < T → m' 149 t = m 149 t) (e150 : ∀ t : Nat, t < T → m' 150 t = m 150 t) (e151 : ∀ i : Int, 0 ≤ i → i < 4 * (T : Int) → m' 151 i = m 151 i) (r : ∀ i, iR (m' 151 i)) (e153 : ∀ i : Nat, i < 262144 → m' 153 i = m 153 i) (h : TtI m T) : TtI m' T := by
  obtain ⟨h1, h2, h3, h4, h5, h6⟩ := h
  have es : ∀ k : Nat, k < T → sl (m' 151) (4 * (k : Int)) (m' 150 k).toNat = sl (m 151) (4 * (k : Int)) (m 150 k).toNat := by
    intro k hk
    rw [e150 k hk]
    have := (h4 k hk).2.1
    exact sl_cgt fun j q1 q2 => e151 j (by omega) (by omega)
  refine ⟨e42.trans h1, h2, r, fun t ht => ?_, fun i hi => by rw [e153 i hi]; exact h5 i hi, ?_⟩
  · rw [e149 t ht, e150 t ht]
    obtain ⟨a1, a2, a3⟩ := h4 t ht
    refine ⟨a1, a2, fun k hk => ?_⟩
    rw [e151 _ (by omega) (by omega)]
    exact a3 k hk
  · exact HT_congr (by decide) (fun i hi => by show (m 153 i).toNat = (m' 153 i).toNat; rw [e153 i hi]) (fun k hk => by show (spT (m 149 k) _).toNat = (spT (m' 149 k) _).toNat; rw [e149 k hk, es k hk]) h6
theorem isT_cg {m m' : PM} {T t : Nat} {x : Int} {ps : List Int} (ht : t < T) (e149 : m' 149 t = m 149 t) (e150 : m' 150 t = m 150 t) (e151 : ∀ i : Int, 0 ≤ i → i < 4 * (T : Int) → m' 151 i = m 151 i) (h4 : m 150 t ≤ 4) (h : isT m' t x ps) : isT m t x ps := by
  obtain ⟨h1, h2, h3⟩ := h
  rw [e149] at h1
  rw [e150] at h2
  refine ⟨h1, h2, ?_⟩
  rw [← h3, sl_len]
  exact sl_cgt fun j q1 q2 => (e151 j (by omega) (by omega)).symm
theorem TtU_cg {m m' : PM} {T : Nat} (hI : TtI m T) (e149 : ∀ t : Nat, t < T → m' 149 t = m 149 t) (e150 : ∀ t : Nat, t < T → m' 150 t = m 150 t) (e151 : ∀ i : Int, 0 ≤ i → i < 4 * (T : Int) → m' 151 i = m 151 i) (h : TtU m T) : TtU m' T := by
  intro t t' x ps ht ht' a b
  exact h t t' x ps ht ht' (isT_cg ht (e149 t ht) (e150 t ht) e151 (hI.2.2.2.1 t ht).2.1.2 a) (isT_cg ht' (e149 t' ht') (e150 t' ht') e151 (hI.2.2.2.1 t' ht').2.1.2 b)
/-- node i of a rule's term has been made -/
def OkM (β : Nat → List Cd) (p : Int) (m : PM) (T : Nat) (i : Int) (q : List Cd) : Prop := (∃ u : Nat, m 165 i = (u : Int) ∧ u < T ∧ Tg m u (sbC β q)) ∨ (p = 0 ∧ m 165 i = -1 ∧ ∀ t : Nat, t < T → ¬ Tg m t (sbC β q))
/-- what making a term may write of the table, from term T on -/
abbrev WMd (T : Nat) (c : Nat) (i : Int) : Prop := (c = 151 ∧ 4 * (T : Int) ≤ i) ∨ ((c = 149 ∨ c = 150 ∨ c = 152) ∧ (T : Int) ≤ i) ∨ c = 153 ∨ (c = 125 ∧ i = 42)
section RMD
variable {d : Nat} {μ : am_Mem} {l : PM} {Q : Option Value ⊕ Nat → am_Mem → Prop} {x1 p j : Int} {n T : Nat}
/-- the parts' numbers are laid behind the last term -/
theorem md_49 {m : PM} (H : RS μ) (h42 : m 125 42 = (T : Int)) (hT : T < 130000) (hj : 0 ≤ j ∧ j < 1100) (hn : n ≤ 4) (h140 : m 140 j = (n : Int)) (hnd : ∀ k : Nat, k < n → 0 ≤ m 141 (4 * j + k) ∧ m 141 (4 * j + k) < 1100) (hR : ∀ i, iR (m 165 i))
    (hq : ∀ (mk : PM) (o6 : Option Value), (∀ c i, ¬ (c = 151 ∧ 4 * (T : Int) ≤ i) → mk c i = m c i) → (∀ k : Nat, k < n → mk 151 (4 * (T : Int) + k) = m 165 (m 141 (4 * j + k))) → (∀ i, iR (mk 151 i)) → Wp (d + 2) 204 (49, [some (.ref 125), some (.int (zI x1)), some (.int (zI p)), some (.int (zI j)), some (.int (zI (bP (∀ k : Nat, k < n → 0 ≤ m 165 (m 141 (4 * j + k)))))), some (.int (zI (n : Int))), o6], [], sA μ mk l) Q) :
    ∀ (f k : Nat) (mk : PM) (o6 : Option Value), k + f = n → (∀ c i, ¬ (c = 151 ∧ 4 * (T : Int) ≤ i) → mk c i = m c i) → (∀ i : Nat, i < k → mk 151 (4 * (T : Int) + i) = m 165 (m 141 (4 * j + i))) → (∀ i, iR (mk 151 i)) → Wp (d + 2) 204 (49, [some (.ref 125), some (.int (zI x1)), some (.int (zI p)), some (.int (zI j)), some (.int (zI (bP (∀ i : Nat, i < k → 0 ≤ m 165 (m 141 (4 * j + i)))))), some (.int (zI (k : Int))), o6], [], sA μ mk l) Q := by
  intro f
  induction f with
  | zero =>
    intro k mk o6 hk g1 g2 g3
    have ek : k = n := by omega
    rw [ek] at g2 ⊢
    exact hq mk o6 g1 g2 g3
  | succ f ih =>
    intro k mk o6 hk g1 g2 g3
    have hd := hnd k (by omega)
    have e140 : mk 140 j = (n : Int) := by rw [g1 _ _ (by omega)]; exact h140
    have e141 : mk 141 (4 * j + k) = m 141 (4 * j + k) := g1 _ _ (by omega)
    have e165 : ∀ i, mk 165 i = m 165 i := fun i => g1 _ _ (by omega)
    have e42 : mk 125 42 = (T : Int) := by rw [g1 _ _ (by omega)]; exact h42
    refine R204_49 H ⟨hj, ⟨by omega, by omega⟩, by rw [e140]; exact ⟨by omega, by omega⟩, fun q => by omega, fun _ => ⟨⟨by omega, by omega⟩, by rw [e141]; exact hd, by rw [e42]; exact ⟨by omega, by omega⟩, bP_R _, ⟨fun _ => trivial, fun _ => ⟨by rw [e165]; exact hR _, trivial⟩⟩, ?_⟩⟩
    rw [e141, e165, e42]
    rintro m2 e2 v3 e3 v4 e4
    have ev : v4 = bP (∀ i : Nat, i < k + 1 → 0 ≤ m 165 (m 141 (4 * j + i))) := by
      rw [e4]
      by_cases y : ∀ i : Nat, i < k → 0 ≤ m 165 (m 141 (4 * j + i))
      · rw [if_neg (by rw [bP_1 y]; decide)]
        by_cases z : m 165 (m 141 (4 * j + (k : Int))) < 0
        · rw [if_pos z]
          exact (bP_0 (fun w => by have := w k (by omega); omega)).symm
        · rw [if_neg z]
          refine (bP_1 (fun i hi => ?_)).symm
          by_cases w : i = k
          · rw [w]
            omega
          · exact y i (by omega)
      · rw [if_pos (bP_0 y)]
        exact (bP_0 (fun w => y (fun i hi => w i (by omega)))).symm
    rw [ev]
    refine ih (k + 1) m2 _ (by omega) (fun c i q => ?_) (fun i hi => ?_) (fun i => ?_)
    · rw [e2, up_o (by omega)]
      exact g1 c i q
    · by_cases w : i = k
      · rw [e2, w, up_s]
      · rw [e2, up_i (by omega)]
        exact g2 i (by omega)
    · rw [e2]
      by_cases w : i = 4 * (T : Int) + k
      · rw [w, up_s]
        exact hR _
      · rw [up_i w]
        exact g3 i
end RMD
