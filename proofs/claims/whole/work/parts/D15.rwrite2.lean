/-! ===== the reference writes a term's text ===== -/
theorem TgR_gnd {m : PM} : ∀ (f t : Nat) (cs : List Cd), TgR f m t cs → gnd cs := by
  intro f
  induction f with
  | zero => intro t cs h; exact absurd h (fun z => z)
  | succ f ih =>
    intro t cs h
    obtain ⟨w, ps, h1, h2, h3, h4, h5⟩ := h
    rw [h1]
    intro c hc
    rcases List.mem_cons.mp hc with y | y
    · rw [y]
      show ps.length < 5
      omega
    · obtain ⟨p, hp, hc'⟩ := List.mem_flatten.mp y
      obtain ⟨k, hk, e⟩ := mem_gD2 hp
      obtain ⟨u, _, _, e3⟩ := h5 k hk
      rw [e] at e3
      exact ih u p e3 c hc'
theorem nX_sg {m : PM} {x : Int} {w : List Int} (hW : NmW m) (h : nX m x w) : m 130 x = (w.length : Int) ∧ w.length ≤ 16 ∧ ∀ i : Nat, i < w.length → m 129 (16 * x + i) = w.getD i 0 := by
  obtain ⟨h1, h2, h3⟩ := h
  have ex : ((x.toNat : Nat) : Int) = x := by omega
  have hk := hW.2.2 x.toNat (by omega)
  unfold nmR at h3
  rw [ex] at h3 hk
  have hl : w.length = (m 130 x).toNat := by rw [← h3, sl_len]
  refine ⟨by omega, by omega, fun i hi => ?_⟩
  rw [← h3, sl_get _ _ _ _ (by omega)]
section RW2
variable {d : Nat} {μ : am_Mem} {l : PM} {Q : Option Value ⊕ Nat → am_Mem → Prop} {x1 : Int}
/-- the parts are laid on the pile -/
theorem wr_86 {m0 : PM} {t n : Nat} {h : Nat} (H : RS μ) (ht : t < 130000) (hn : n ≤ 4) (hh : (h : Int) + 2 * (n : Int) < 1099) (hq : ∀ m : PM, (∀ c j, ¬ (c = 166 ∧ (h : Int) ≤ j) → m c j = m0 c j) → (∀ i : Nat, i < n → m 166 ((h : Int) + 2 * ((n : Int) - 1 - i)) = m0 151 (4 * (t : Int) + i) ∧ m 166 ((h : Int) + 2 * ((n : Int) - 1 - i) + 1) = -32) → Wp d 208 (86, [some (.ref 125), some (.int (zI x1)), some (.int (zI ((h : Int) + 2 * (n : Int)))), some (.int (zI (t : Int))), some (.int (zI (-1)))], [], sA μ m l) Q) : ∀ (k : Nat) (m : PM), k ≤ n → (∀ c j, ¬ (c = 166 ∧ (h : Int) ≤ j) → m c j = m0 c j) → (∀ i : Nat, k ≤ i → i < n → m 166 ((h : Int) + 2 * ((n : Int) - 1 - i)) = m0 151 (4 * (t : Int) + i) ∧ m 166 ((h : Int) + 2 * ((n : Int) - 1 - i) + 1) = -32) → Wp d 208 (86, [some (.ref 125), some (.int (zI x1)), some (.int (zI ((h : Int) + 2 * ((n : Int) - k)))), some (.int (zI (t : Int))), some (.int (zI ((k : Int) - 1)))], [], sA μ m l) Q := by
  intro k
  induction k with
  | zero =>
    intro m _ g1 g2
    have z := hq m g1 (fun i hi => g2 i (Nat.zero_le _) hi)
    rw [show (h : Int) + 2 * ((n : Int) - ((0 : Nat) : Int)) = (h : Int) + 2 * (n : Int) by omega, show ((0 : Nat) : Int) - 1 = -1 by omega]
    exact z
  | succ k ih =>
    intro m hk g1 g2
    have ek : ((k + 1 : Nat) : Int) - 1 = (k : Int) := by omega
    rw [ek]
    refine R208_86 H ⟨⟨by omega, by omega⟩, fun y => by omega, fun _ => ⟨⟨by omega, by omega⟩, ⟨by omega, by omega⟩, ⟨by omega, by omega⟩, ?_⟩⟩
    rintro m2 e2
    have e151 : m 151 (4 * (t : Int) + k) = m0 151 (4 * (t : Int) + k) := g1 _ _ (by omega)
    rw [e151] at e2
    have z := ih m2 (by omega) (fun c j y => by rw [e2, up_o (by omega), up_o (by omega)]; exact g1 c j y) (fun i y1 y2 => by
      by_cases w : i = k
      · rw [w, e2]
        constructor
        · rw [up_i (by omega), show (h : Int) + 2 * ((n : Int) - 1 - (k : Int)) = (h : Int) + 2 * ((n : Int) - ((k + 1 : Nat) : Int)) by omega, up_s]
        · rw [show (h : Int) + 2 * ((n : Int) - 1 - (k : Int)) + 1 = (h : Int) + 2 * ((n : Int) - ((k + 1 : Nat) : Int)) + 1 by omega, up_s]
      · rw [e2, up_i (by omega), up_i (by omega), up_i (by omega), up_i (by omega)]
        exact g2 i (by omega) y2)
    rw [show (h : Int) + 2 * ((n : Int) - ((k + 1 : Nat) : Int)) + 2 = (h : Int) + 2 * ((n : Int) - (k : Int)) by omega]
    exact z
abbrev FWr (h : Nat) (L : List Int) (c : Nat) (j : Int) : Prop := (c = 166 ∧ (h : Int) ≤ j) ∨ (c = 176 ∧ (L.length : Int) ≤ j) ∨ (c = 125 ∧ j = 80)
/-- the parts that are left on the pile are written -/
theorem wr_parts {f : Nat} {ps : List (List Cd)} {h t : Nat} {mA : PM} (H : RS μ) (hn : ps.length ≤ 4) (hh : (h : Int) + 9 * ((f : Int) + 1) ≤ 1080)
    (ih : ∀ (u : Nat) (cs : List Cd) (h : Nat) (m : PM) (L : List Int) (Q : Option Value ⊕ Nat → am_Mem → Prop), TgR f m u cs → u < 130000 → NmW m → m 125 9 ≤ 1010 → RwL m L → L.length + (tx cs).length ≤ 2999 → m 166 (h : Int) = (u : Int) → (h : Int) + 9 * (f : Int) ≤ 1080 → (∀ (m' : PM) (o3 o4 : Option Value), RwL m' (L ++ tx cs) → (∀ c j, ¬ FWr h L c j → m' c j = m c j) → Wp d 208 (14, [some (.ref 125), some (.int (zI x1)), some (.int (zI (h : Int))), o3, o4], [], sA μ m' l) Q) → ∀ o3 o4 : Option Value, Wp d 208 (14, [some (.ref 125), some (.int (zI x1)), some (.int (zI ((h : Int) + 1))), o3, o4], [], sA μ m l) Q)
    (htr : ∀ (m : PM) (u : Nat) (cs : List Cd), (∀ c j, ¬ WWr c j → m c j = mA c j) → TgR f mA u cs → TgR f m u cs) (hW : NmW mA) (h9 : mA 125 9 ≤ 1010) (ht : t < 130000)
    (hp : ∀ k : Nat, k < ps.length → ∃ u : Nat, mA 151 (4 * (t : Int) + k) = (u : Int) ∧ u < t ∧ TgR f mA u (ps.getD k [])) :
    ∀ (r i : Nat) (m : PM) (L : List Int) (o3 o4 : Option Value), i + r = ps.length → (∀ c j, ¬ WWr c j → m c j = mA c j) → RwL m L → L.length + (txP (ps.drop i)).length + 1 ≤ 2999 → m 166 (h : Int) = -41 → (∀ k : Nat, i ≤ k → k < ps.length → m 166 ((h : Int) + 1 + 2 * ((ps.length : Int) - 1 - k)) = mA 151 (4 * (t : Int) + k) ∧ m 166 ((h : Int) + 1 + 2 * ((ps.length : Int) - 1 - k) + 1) = -32) → (∀ (m' : PM) (o3 o4 : Option Value), RwL m' (L ++ txP (ps.drop i) ++ [41]) → (∀ c j, ¬ FWr h L c j → m' c j = m c j) → Wp d 208 (14, [some (.ref 125), some (.int (zI x1)), some (.int (zI (h : Int))), o3, o4], [], sA μ m' l) Q) → Wp d 208 (14, [some (.ref 125), some (.int (zI x1)), some (.int (zI ((h : Int) + 1 + 2 * (r : Int)))), o3, o4], [], sA μ m l) Q := by
  intro r
  induction r with
  | zero =>
    intro i m L o3 o4 hi g1 g2 g3 g4 g5 hq
    have ed : ps.drop i = [] := List.drop_eq_nil_of_le (by omega)
    rw [ed] at hq g3
    rw [show (h : Int) + 1 + 2 * ((0 : Nat) : Int) = (h : Int) + 1 by omega]
    refine wr_sign (v := 41) H (by omega) (by omega) g2 ⟨by decide, by decide⟩ g4 (fun m' o3 o4 y1 y2 => hq m' o3 o4 (by rw [show txP [] = [] from rfl, List.append_nil]; exact y1) (fun c j z => y2 c j (by omega))) o3 o4
  | succ r ihr =>
    intro i m L o3 o4 hi g1 g2 g3 g4 g5 hq
    have hi' : i < ps.length := by omega
    obtain ⟨u, e1, e2, e3⟩ := hp i hi'
    obtain ⟨a1, a2⟩ := g5 i (Nat.le_refl _) hi'
    have ed : ps.drop i = ps.getD i [] :: ps.drop (i + 1) := by
      rw [List.getD_eq_getElem?_getD, List.getElem?_eq_getElem hi']
      exact List.drop_eq_getElem_cons hi'
    have et : txP (ps.drop i) = [32] ++ tx (ps.getD i []) ++ txP (ps.drop (i + 1)) := by
      rw [ed]
      rfl
    have el : (txP (ps.drop i)).length = 1 + (tx (ps.getD i [])).length + (txP (ps.drop (i + 1))).length := by
      rw [et, List.length_append, List.length_append, List.length_singleton]
    have eh : (h : Int) + 1 + 2 * ((r + 1 : Nat) : Int) = ((h + 2 + 2 * r : Nat) : Int) + 1 := by omega
    have eI : (h : Int) + 1 + 2 * ((ps.length : Int) - 1 - i) = ((h + 1 + 2 * r : Nat) : Int) := by omega
    have eI1 : (h : Int) + 1 + 2 * ((ps.length : Int) - 1 - i) + 1 = ((h + 2 + 2 * r : Nat) : Int) := by omega
    rw [eI1] at a2
    rw [eI, e1] at a1
    rw [eh]
    refine wr_sign (v := 32) H (by omega) (by omega) g2 ⟨by decide, by decide⟩ a2 (fun m1 o3 o4 y1 y2 => ?_) o3 o4
    have eh2 : ((h + 2 + 2 * r : Nat) : Int) = ((h + 1 + 2 * r : Nat) : Int) + 1 := by omega
    rw [eh2]
    have w1 : ∀ c j, ¬ WWr c j → m1 c j = mA c j := fun c j z => (y2 c j (by omega)).trans (g1 c j z)
    have l1 : (L ++ [(32 : Int)]).length = L.length + 1 := by rw [List.length_append, List.length_singleton]
    refine ih u (ps.getD i []) (h + 1 + 2 * r) m1 (L ++ [32]) Q (htr m1 u _ w1 e3) (by omega) (NmW_cg (w1 _ _ (by omega)) (fun i => w1 _ _ (by omega)) (fun i => w1 _ _ (by omega)) hW) (by rw [w1 _ _ (by omega)]; exact h9) y1 (by omega) (by rw [y2 _ _ (by omega)]; exact a1) (by omega) (fun m2 o3 o4 z1 z2 => ?_) o3 o4
    have w2 : ∀ c j, ¬ WWr c j → m2 c j = mA c j := fun c j z => (z2 c j (by omega)).trans (w1 c j z)
    have l2 : (L ++ [(32 : Int)] ++ tx (ps.getD i [])).length = L.length + 1 + (tx (ps.getD i [])).length := by rw [List.length_append, l1]
    have eh3 : ((h + 1 + 2 * r : Nat) : Int) = (h : Int) + 1 + 2 * (r : Int) := by omega
    rw [eh3]
    refine ihr (i + 1) m2 _ o3 o4 (by omega) w2 z1 (by rw [l2]; omega) (by rw [z2 _ _ (by omega), y2 _ _ (by omega)]; exact g4) (fun k y3 y4 => ?_) (fun m3 o3 o4 v1 v2 => hq m3 o3 o4 ?_ (fun c j z => ?_))
    · have z := g5 k (by omega) y4
      rw [z2 _ _ (by omega), z2 _ _ (by omega), y2 _ _ (by omega), y2 _ _ (by omega)]
      exact z
    · rw [et]
      simpa [List.append_assoc] using v1
    · rw [v2 c j (by rw [FWr, l2]; omega), z2 c j (by rw [FWr, l1]; omega), y2 c j (by omega)]
end RW2
