/-! ===== the class's parser: atoms ===== -/
theorem TcR_mono {X : Int → List Int → Prop} {s : Nat} {m : PM} : ∀ (f f' : Nat) (k : Int) (cs : List Cd), f ≤ f' → TcR X s f m k cs → TcR X s f' m k cs := by
  intro f
  induction f with
  | zero => intro f' k cs _ h; exact absurd h (fun z => z)
  | succ f ih =>
    intro f' k cs hf h
    obtain ⟨f', rfl⟩ : ∃ g, f' = g + 1 := ⟨f' - 1, by omega⟩
    cases cs with
    | nil => exact h
    | cons c rest =>
      obtain ⟨a, w⟩ := c
      unfold TcR at h ⊢
      simp only at h ⊢
      refine ⟨h.1, h.2.1, ?_⟩
      have h3 := h.2.2
      split
      · rename_i q
        rw [if_pos q] at h3
        exact h3
      · rename_i q
        rw [if_neg q] at h3
        obtain ⟨ps, e1, e2, e3, e4, e5⟩ := h3
        exact ⟨ps, e1, e2, e3, e4, PcR_cg ps 0 _ (fun _ _ _ => rfl) (fun x p _ _ hR => ih f' x p (by omega) hR) e5⟩
theorem NdC_mono {X : Int → List Int → Prop} {s f f' : Nat} {m : PM} {k : Int} {L : Int → Prop} {ps : List (List Cd)} (hf : f ≤ f') (h : NdC X s f m k L ps) : NdC X s f' m k L ps := by
  obtain ⟨a1, a2, a3, a4, a5, a6⟩ := h
  exact ⟨a1, a2, a3, a4, a5, PcR_cg ps 0 _ (fun _ _ _ => rfl) (fun x p _ _ hR => TcR_mono f f' x p hf hR) a6⟩
/-- what a call that reads an atom does -/
def AtQ (t : Int → Int) (n : Int) (X : Int → List Int → Prop) (J s : Nat) (m : PM) (D : Int) (r : Rd Atm) (x : Int) (m' : PM) : Prop :=
  (∀ c j, ¬ WC s (m s 6) D c j → m' c j = m c j) ∧ match r with
  | .inl e => x = -1 ∧ m' 62 2 = (e : Int) ∧ e ≤ J
  | .inr (a, i', vs') => x = m s 6 + (a.2.flatten.length : Int) ∧ CI t n X J s m' i' vs' ∧ m' s 6 = x + 1 ∧ NdC X s 11 m' x (fun y => X y a.1) a.2
abbrev AtP (t : Int → Int) (n : Int) (X : Int → List Int → Prop) (J s : Nat) (μ : am_Mem) (l m : PM) (D : Int) (r : Rd Atm) : Int32 → am_Mem → Prop := fun y μ' => ∃ (x : Int) (m' : PM), y = zI x ∧ iR x ∧ μ' = sA μ m' l ∧ AtQ t n X J s m D r x m'
def atM (w : List Int) : Rd (List (List Cd)) → Rd Atm
  | .inl x => .inl x
  | .inr (ps, i', vs') => .inr ((w, ps), i', vs')
section CPE
variable {t : Int → Int} {n : Int} {X : Int → List Int → Prop} {J : Nat} {d : Nat} {μ : am_Mem} {m l : PM} {s : Nat} {i : Nat} {vs : List (List Int)}
theorem PaQ_AtQ {f : Nat} {D x : Int} {w : List Int} {r : Rd (List (List Cd))} {m' : PM} (hf : f ≤ 11) (h : PaQ t n X J s m f (m s 6) D (fun x => X x w) r x m') : AtQ t n X J s m D (atM w r) x m' := by
  obtain ⟨h1, h2⟩ := h
  refine ⟨h1, ?_⟩
  cases r with
  | inl e => exact h2
  | inr y =>
    obtain ⟨ps, i', vs'⟩ := y
    obtain ⟨a1, a2, a3, a4⟩ := h2
    exact ⟨a1, a2, a3, NdC_mono hf a4⟩
theorem simC' (H : CS μ) (hs : s = 22 ∨ s = 42) (hS : am_F μ 62 1 = s) (hX : XP X) (hn : 0 ≤ n ∧ n ≤ 2000) (d dl : Nat) (h : dl ≤ 9) : SimC t n X J s μ l (d + 21) dl := by
  have z := simC (t := t) (n := n) (X := X) (J := J) (l := l) H hs hS hX hn dl (by omega) (d + (20 - 2 * dl))
  rw [show d + (20 - 2 * dl) + 2 * dl + 1 = d + 21 by omega] at z
  exact z
/-- takeTerm for an atom -/
theorem tt_atom {dl : Nat} {x1 : Int} (H : CS μ) (hs : s = 22 ∨ s = 42) (hS : am_F μ 62 1 = s) (hX : XP X) (hn : 0 ≤ n ∧ n ≤ 2000) (hdl : dl ≤ 9) (hx : x1 + 1 = 10 - (dl : Int)) (h : CI t n X J s m i vs) :
  Wp (d + 23) 58 (0, [some (.ref 62), some (.int (zI x1)), some (.int (zI 1)), none, none], [], sA μ m l) (pI (AtP t n X J s μ l m (x1 + 1) (pAt t n dl i vs)) noX) := by
  obtain ⟨hT, h2, h3, h4, _⟩ := id h
  have hJ := hT.1
  have hc := ck_all t n i
  have e19 : m 19 (m 62 2) = ckK (tK t n i) := by rw [h2]; exact (hT.2.2.2 i h3).1
  have at43 : Wp (d + 23) 58 (43, [some (.ref 62), some (.int (zI x1)), some (.int (zI 1)), none, none], [], sA μ m l) (pI (AtP t n X J s μ l m (x1 + 1) (pAt t n dl i vs)) noX) := by
    by_cases c1 : tK t n i = 1
    · have e : pAt t n dl i vs = atM (tW t n (i + 1)) (if pln t n (i + 1) then pPs (tK t n) (pT t n dl) 1 4 (i + 2) vs [] else .inl (i + 1)) := by
        unfold pAt
        rw [if_neg (fun z => absurd z.1 (by omega)), if_pos c1]
        by_cases hb : pln t n (i + 1)
        · rw [if_pos hb, if_pos hb]
          unfold pPa
          cases pPs (tK t n) (pT t n dl) 1 4 (i + 2) vs [] with
          | inl x => rfl
          | inr y => rfl
        · rw [if_neg hb, if_neg hb]
          rfl
      rw [e]
      refine (tt_open (x2 := 1) H hs hS hX hn hdl (simC' H hs hS hX hn d dl hdl) hx h c1).mono (fun o μ' ho => pI_map (fun y μ'' hy => ?_) ho)
      obtain ⟨x', m', e1, hx', e2, hq⟩ := hy
      exact ⟨x', m', e1, hx', e2, PaQ_AtQ (by omega) hq⟩
    · have e : pAt t n dl i vs = if pln t n i then .inr ((tW t n i, []), i + 1, vs) else .inl i := by
        unfold pAt
        rw [if_neg c1]
      rw [e]
      refine (tt_name (f := 0) (D := x1) (x2 := 1) H hs hS hX hn h c1).mono (fun o μ' ho => pI_map (fun y μ'' hy => ?_) ho)
      obtain ⟨x', m', e1, hx', e2, hq1, hq2⟩ := hy
      refine ⟨x', m', e1, hx', e2, hq1, ?_⟩
      by_cases hb : pln t n i
      · rw [if_pos hb] at hq2 ⊢
        obtain ⟨a1, a2, a3, a4, a5⟩ := hq2
        have el : ((([(0, tW t n i)] : List Cd).length : Nat) : Int) = 1 := rfl
        rw [el] at a1 a4
        unfold TcR at a5
        simp only at a5
        obtain ⟨b1, b2, b3⟩ := a5
        rw [if_neg (by omega)] at b3
        obtain ⟨ps, c1', c2, c3, c4, _⟩ := b3
        refine ⟨by show x' = m s 6 + ((0 : Nat) : Int); omega, a3, by omega, c3, c4, by rw [b1]; show (((0 : Nat) ||| 0 : Nat) : Int) = ((0 : Nat) : Int); decide, by show m' (s + 9) x' = x' - ((0 : Nat) : Int); exact b2, Nat.zero_le _, trivial⟩
      · rw [if_neg hb] at hq2 ⊢
        exact hq2
  exact K58_0 H hs hS ⟨by omega, by rw [e19]; exact hc.2.2.2.2, fun _ => at43, fun _ => ⟨by decide, fun _ => at43, fun z => absurd (by decide) z⟩⟩
end CPE
