/-! ===== the class's terms: hashes rest on names alone; isBehind, arrange ===== -/
def hcV (x : Int) (hs : List Int) : Int := zXor (hs.foldl (fun y p => (zXor y (zUsh y 15) + p) * (-2048144789)) (x * (-1640531535) + (hs.length : Int))) (zUsh (hs.foldl (fun y p => (zXor y (zUsh y 15) + p) * (-2048144789)) (x * (-1640531535) + (hs.length : Int))) 13)
theorem hcF_V (h : Int → Int) (x : Int) (ps : List Int) : hcF h x ps = hcV x (ps.map h) := by
  unfold hcF hcV hcN
  rw [List.length_map, List.foldl_map]
/-- a term's hash -/
def HsR (X : Int → List Int → Prop) : Nat → List Cd → Int → Prop
  | 0, _, _ => False
  | f + 1, cs, h => ∃ (w : List Int) (ps : List (List Cd)) (x : Int) (hs : List Int), cs = (ps.length, w) :: ps.flatten ∧ (∀ p, p ∈ ps → GdC p) ∧ X x w ∧ hs.length = ps.length ∧ (∀ k : Nat, k < ps.length → HsR X f (ps.getD k []) (hs.getD k 0)) ∧ h = hcV x hs
/-- parts are told by their codes -/
theorem prs_uni {ps ps' : List (List Cd)} (hl : ps.length = ps'.length) (h : ∀ p, p ∈ ps → GdC p) (h' : ∀ p, p ∈ ps' → GdC p) (e : ps.flatten = ps'.flatten) : ps = ps' := by
  obtain ⟨f, hf⟩ := GdC_f h
  obtain ⟨f', hf'⟩ := GdC_f h'
  exact (wfS_list (wfS_pre (f + f')) ps ps' [] [] hl (fun p hp => wfS_mono _ _ _ (by omega) (hf p hp).1) (fun p hp => wfS_mono _ _ _ (by omega) (hf' p hp).1) (by rw [List.append_nil, List.append_nil]; exact e)).1
theorem HsR_fun {X : Int → List Int → Prop} (hX : XP X) : ∀ (f f' : Nat) (cs : List Cd) (h h' : Int), HsR X f cs h → HsR X f' cs h' → h = h' := by
  intro f
  induction f with
  | zero => intro f' cs h h' a; exact absurd a (fun z => z)
  | succ f ih =>
    intro f' cs h h' a b
    cases f' with
    | zero => exact absurd b (fun z => z)
    | succ f' =>
      obtain ⟨w, ps, x, hs, a1, a2, a3, a4, a5, a6⟩ := a
      obtain ⟨w', ps', x', hs', b1, b2, b3, b4, b5, b6⟩ := b
      rw [a1] at b1
      have e0 := List.cons.inj b1
      have el : ps.length = ps'.length := congrArg Prod.fst e0.1
      have ew : w = w' := congrArg Prod.snd e0.1
      have ep := prs_uni el a2 b2 e0.2
      have ex : x = x' := hX.2.2.1 _ _ _ a3 (by rw [ew]; exact b3)
      have eh : hs = hs' := List.ext_getElem (by omega) (fun k k1 k2 => by
        have z1 := a5 k (by omega)
        have z2 := b5 k (by omega)
        rw [← ep] at z2
        have z := ih f' _ _ _ z1 z2
        rw [List.getD_eq_getElem?_getD, List.getD_eq_getElem?_getD, List.getElem?_eq_getElem k1, List.getElem?_eq_getElem k2] at z
        exact z)
      rw [a6, b6, ex, eh]
noncomputable def hsO (X : Int → List Int → Prop) (cs : List Cd) : Int := Classical.epsilon (fun h => ∃ f, HsR X f cs h)
theorem hsO_eq {X : Int → List Int → Prop} (hX : XP X) {f : Nat} {cs : List Cd} {h : Int} (a : HsR X f cs h) : hsO X cs = h := by
  have z := Classical.epsilon_spec (p := fun h => ∃ f, HsR X f cs h) ⟨h, f, a⟩
  obtain ⟨f', b⟩ := z
  exact HsR_fun hX _ _ _ _ _ b a
/-- which of two terms stands behind -/
def orH (X : Int → List Int → Prop) (p p' : List Cd) : Prop := hsO X p < hsO X p' ∨ (hsO X p = hsO X p' ∧ ltT (tx p) (tx p'))
theorem orH_tr {X : Int → List Int → Prop} {p p' p'' : List Cd} (h : orH X p p') (h' : orH X p' p'') : orH X p p'' := by
  rcases h with a | ⟨a, b⟩ <;> rcases h' with a' | ⟨a', b'⟩
  · exact Or.inl (by omega)
  · exact Or.inl (by omega)
  · exact Or.inl (by omega)
  · exact Or.inr ⟨by omega, ltT_tr b b'⟩
theorem orH_irr {X : Int → List Int → Prop} (p : List Cd) : ¬ orH X p p := fun h => by
  rcases h with a | ⟨_, b⟩
  · omega
  · exact ltT_irr _ b
def SrH (X : Int → List Int → Prop) (L : List (List Cd)) : Prop := L.Pairwise (orH X)
theorem SrH_uni {X : Int → List Int → Prop} : ∀ {L M : List (List Cd)}, SrH X L → SrH X M → (∀ t, t ∈ L ↔ t ∈ M) → L = M := by
  intro L
  induction L with
  | nil =>
    intro M _ _ h
    cases M with
    | nil => rfl
    | cons b M => exact absurd ((h b).mpr List.mem_cons_self) List.not_mem_nil
  | cons a L ih =>
    intro M hL hM h
    cases M with
    | nil => exact absurd ((h a).mp List.mem_cons_self) List.not_mem_nil
    | cons b M =>
      obtain ⟨l1, l2⟩ := List.pairwise_cons.mp hL
      obtain ⟨m1, m2⟩ := List.pairwise_cons.mp hM
      have e : a = b := by
        rcases List.mem_cons.mp ((h a).mp List.mem_cons_self) with e | e
        · exact e
        · rcases List.mem_cons.mp ((h b).mpr List.mem_cons_self) with e' | e'
          · exact e'.symm
          · exact absurd (orH_tr (m1 a e) (l1 b e')) (orH_irr _)
      rw [e] at l1 h ⊢
      refine congrArg (List.cons b) (ih l2 m2 (fun t => ⟨fun ht => ?_, fun ht => ?_⟩))
      · rcases List.mem_cons.mp ((h t).mp (List.mem_cons_of_mem _ ht)) with e' | e'
        · rw [e'] at ht; exact absurd (l1 b ht) (orH_irr _)
        · exact e'
      · rcases List.mem_cons.mp ((h t).mpr (List.mem_cons_of_mem _ ht)) with e' | e'
        · rw [e'] at ht; exact absurd (m1 b ht) (orH_irr _)
        · exact e'
section CAR
variable {d : Nat} {Q : Option Value ⊕ Nat → am_Mem → Prop} {X : Int → List Int → Prop} {μ : am_Mem} {m l : PM} {T q N P S a r1 L1 : Nat}
theorem Cg_hs (hX : XP X) (hI : CtI q N S m T) : ∀ (f u : Nat) (p : List Cd), u < f → u < T → Cg X q m u p → GdC p → HsR X f p (m (q + 4) (u : Int)) := by
  intro f
  induction f with
  | zero => intro u p hf; exact absurd hf (Nat.not_lt_zero u)
  | succ f ih =>
    intro u p hf hu cu hp
    match p, hp, cu with
    | [], hp, _ =>
      obtain ⟨⟨f, hf⟩, _⟩ := hp
      cases f <;> exact absurd hf (fun z => z)
    | (b, w) :: rest, hp, cu =>
    obtain ⟨hw, ps, p1, p4, p2, p3⟩ := GdC_u hp
    obtain ⟨g, hg⟩ := GdC_f p3
    rw [← p1, ← p2] at cu ⊢
    rw [← p1] at p4
    obtain ⟨c1, c2, c3⟩ := Cg_un (fun p hp => (hg p hp).1) cu
    have e4 := (hI.2.2.1 u hu).2.2.2.1
    rw [show (m (q + 1) (u : Int)).toNat = ps.length by omega] at e4
    refine ⟨w, ps, m q (u : Int), (sl (m (q + 2)) (4 * (u : Int)) ps.length).map (m (q + 4)), rfl, p3, c1, by rw [List.length_map, sl_len], fun k hk => ?_, by rw [e4, hcF_V]⟩
    obtain ⟨v, v1, v2, v3⟩ := c3 k hk
    have z := ih v (ps.getD k []) (by omega) (by omega) v3 (p3 _ (gD_in hk))
    have e : ((sl (m (q + 2)) (4 * (u : Int)) ps.length).map (m (q + 4))).getD k 0 = m (q + 4) (v : Int) := by
      rw [List.getD_eq_getElem?_getD, List.getElem?_map, List.getElem?_eq_getElem (show k < (sl (m (q + 2)) (4 * (u : Int)) ps.length).length by rw [sl_len]; exact hk)]
      show m (q + 4) _ = _
      have e2 := sl_get (m (q + 2)) (4 * (u : Int)) ps.length k hk
      rw [List.getD_eq_getElem?_getD, List.getElem?_eq_getElem (show k < (sl (m (q + 2)) (4 * (u : Int)) ps.length).length by rw [sl_len]; exact hk)] at e2
      have e3 : (sl (m (q + 2)) (4 * (u : Int)) ps.length)[k]'(by rw [sl_len]; exact hk) = m (q + 2) (4 * (u : Int) + (k : Int)) := e2
      rw [e3, v1]
    rw [e]
    exact z
theorem Cg_h (hX : XP X) (hI : CtI q N S m T) {u : Nat} {p : List Cd} (hu : u < T) (cu : Cg X q m u p) (hp : GdC p) : m (q + 4) (u : Int) = hsO X p ∧ iR (m (q + 4) (u : Int)) := by
  refine ⟨(hsO_eq hX (Cg_hs hX hI (u + 1) u p (Nat.lt_succ_self u) hu cu hp)).symm, ?_⟩
  rw [(hI.2.2.1 u hu).2.2.2.1]
  exact zXor_R _ _
theorem k_isBehind {u v : Nat} {p p' : List Cd} (H : CS μ) (TS_ : TS μ q N P S) (hq : TQ q N P S) (ha : a = 23 ∨ a = 43) (h0 : am_F μ 84 0 = a) (hX : XP X) (hN : NmS X a m) (hI : CtT X q N S m T) (hu : u < T) (hv : v < T) (cu : Cg X q m u p) (cv : Cg X q m v p') (hp : GdC p) (hp' : GdC p') (hl : p.length ≤ 2000) (hne : ¬ p = p') (hk1 : orH X p' p → Q (.inl (some (.int (zI 1)))) (sA μ m l)) (hk0 : orH X p p' → Q (.inl (some (.int (zI 0)))) (sA μ m l)) : Wp (d + 3) 102 (0, [some (.ref 84), some (.int (zI (u : Int))), some (.int (zI (v : Int)))], [], sA μ m l) Q := by
  have hTN := hI.1.2.1
  obtain ⟨e1, r1⟩ := Cg_h hX hI.1 hu cu hp
  obtain ⟨e2, r2⟩ := Cg_h hX hI.1 hv cv hp'
  refine K102_0 (d := d + 1) H TS_ hq ha h0 ⟨⟨by omega, by omega⟩, ⟨by omega, by omega⟩, r1, r2, fun z => hk1 (Or.inl (by omega)), fun z => ⟨fun y => hk0 (Or.inl (by omega)), fun y => ?_⟩⟩
  have ee : m (q + 4) (u : Int) = m (q + 4) (v : Int) := Classical.byContradiction y
  refine ⟨fun y μ' => Wp (d + 3) 102 (36, [some (.ref 84), some (.int (zI (u : Int))), some (.int (zI (v : Int)))], [.int y], μ') Q, noX, ?_, fun _ _ z => z, fun _ _ z => z.elim⟩
  refine k_compare (d := d) (Q := pI _ noX) H TS_ hq ha h0 hX hN hI hu hv cu cv hp hp' hl (fun y hy => ?_)
  show Wp (d + 3) 102 (36, _, [.int (zI y)], _) Q
  refine K102_36 (d := d + 1) H TS_ hq ha h0 ⟨hy.1, fun v1 ev1 => ?_⟩
  rcases hy.2 with ⟨s1, s2⟩ | ⟨s1, s2⟩ | ⟨s1, s2⟩
  · rw [if_pos (by omega)] at ev1
    rw [ev1]
    exact hk0 (Or.inr ⟨by omega, TLt_t s2⟩)
  · exact absurd s2 hne
  · rw [if_neg (by omega)] at ev1
    rw [ev1]
    exact hk1 (Or.inr ⟨by omega, TLt_t s2⟩)
theorem insL_pw {R : List Cd → List Cd → Prop} (tr : ∀ {a b c}, R a b → R b c → R a c) {k : Nat} {t : List Cd} {L : List (List Cd)} (hL : L.Pairwise R) (h : k ≤ L.length) (h1 : ∀ i, i < k → R (L.getD i []) t) (h2 : ∀ i, k ≤ i → i < L.length → R t (L.getD i [])) : (insL k t L).Pairwise R := by
  have hs : (L.take k ++ L.drop k).Pairwise R := by rw [List.take_append_drop]; exact hL
  obtain ⟨a1, a2, a3⟩ := List.pairwise_append.mp hs
  have lo : ∀ x, x ∈ L.take k → R x t := fun x hx => by
    obtain ⟨i, hi, e⟩ := mem_gD2 hx
    rw [List.length_take] at hi
    rw [List.getD_eq_getElem?_getD, List.getElem?_take_of_lt (by omega), ← List.getD_eq_getElem?_getD] at e
    rw [← e]
    exact h1 i (by omega)
  have hi' : ∀ x, x ∈ L.drop k → R t x := fun x hx => by
    obtain ⟨i, hi, e⟩ := mem_gD2 hx
    rw [List.length_drop] at hi
    rw [List.getD_eq_getElem?_getD, List.getElem?_drop, ← List.getD_eq_getElem?_getD] at e
    rw [← e]
    exact h2 (k + i) (by omega) (by omega)
  show (L.take k ++ t :: L.drop k).Pairwise R
  refine List.pairwise_append.mpr ⟨a1, List.pairwise_cons.mpr ⟨hi', a2⟩, fun x hx y hy => ?_⟩
  rcases List.mem_cons.mp hy with e | hy
  · rw [e]; exact lo x hx
  · exact a3 x hx y hy
/-- terms in an order that rests on their names alone -/
theorem k_arrange {L : List (List Cd)} (H : CS μ) (TS_ : TS μ q N P S) (hq : TQ q N P S) (ha : a = 23 ∨ a = 43) (h0 : am_F μ 84 0 = a) (hX : XP X) (hN : NmS X a m) (hI : CtT X q N S m T) (k1 : am_kd μ r1 = (2, L1)) (b1 : L1 ≤ 2000) (hr1 : 94 ≤ r1 ∧ r1 < 185) (hb : L.length ≤ L1) (hrow : RwC X q m T r1 0 L) (hnd : L.Nodup) (hg : ∀ p, p ∈ L → GdC p ∧ p.length ≤ 2000)
    (hk : ∀ (m' : PM) (L' : List (List Cd)), SrH X L' → L'.length = L.length → (∀ t, t ∈ L' ↔ t ∈ L) → RwC X q m' T r1 0 L' → (∀ c j, ¬ c = r1 → m' c j = m c j) → Q (.inl none) (sA μ m' l)) :
    Wp (d + 5) 101 (0, [some (.ref 84), some (.ref r1), some (.int (zI (L.length : Int))), none, none, none], [], sA μ m l) Q := by
  have hTN := hI.1.2.1
  have h58 : N ≤ 58192 := by omega
  have nm : ∀ {m1 : PM}, (∀ c j, ¬ c = r1 → m1 c j = m c j) → NmS X a m1 ∧ CtT X q N S m1 T ∧ ∀ t cs, t < T → (Cg X q m t cs → Cg X q m1 t cs) := fun {m1} f => ⟨fun x w hx => by
    obtain ⟨c1, c2, c3, c4⟩ := hN x w hx
    refine ⟨c1, by rw [f _ _ (by omega), f _ _ (by omega)]; exact c2, by rw [f _ _ (by omega)]; exact c3, fun i hi => by rw [f (a + 3) _ (by omega), f (a + 2) _ (by omega)]; exact c4 i hi⟩, CtT_fr (fun c j z => f c j (by omega)) hI, fun t cs ht h => CgR_cg (T := T) (fun t _ => ⟨f _ _ (by omega), f _ _ (by omega), fun i _ => f _ _ (by omega)⟩) _ t cs ht h⟩
  have outer : ∀ (g i : Nat) (m1 : PM) (A : List (List Cd)) (x4 x5 : Option Value), i + g = L.length → 1 ≤ i → SrH X A → A.length = i → (∀ t, t ∈ A ↔ t ∈ L.take i) → RwC X q m1 T r1 0 A → (∀ j : Nat, i ≤ j → j < L.length → m1 r1 (j : Int) = m r1 (j : Int)) → (∀ c j, ¬ c = r1 → m1 c j = m c j) → Wp (d + 5) 101 (2, [some (.ref 84), some (.ref r1), some (.int (zI (L.length : Int))), some (.int (zI (i : Int))), x4, x5], [], sA μ m1 l) Q := by
    intro g
    induction g with
    | zero =>
      intro i m1 A x4 x5 hi h1 hA hl hm hR hrest hf
      refine K101_2 (d := d + 2) H TS_ hq ha h0 k1 b1 ⟨⟨by omega, by omega⟩, ⟨by omega, by omega⟩, fun _ => ?_, fun z => absurd (by omega) z⟩
      rw [show i = L.length by omega, List.take_length] at hm
      exact hk m1 A hA (by omega) hm hR hf
    | succ g ih =>
      intro i m1 A x4 x5 hi h1 hA hl hm hR hrest hf
      have hil : i < L.length := by omega
      have hmem : L.getD i [] ∈ L := gD_in hil
      obtain ⟨u, u1, u2, u3⟩ := hrow i hil
      rw [show (0 : Int) + (i : Int) = (i : Int) by omega] at u1
      have e1 : m1 r1 (i : Int) = (u : Int) := (hrest i (Nat.le_refl _) hil).trans u1
      refine K101_2 (d := d + 2) H TS_ hq ha h0 k1 b1 ⟨⟨by omega, by omega⟩, ⟨by omega, by omega⟩, fun z => absurd z (by omega), fun _ => ⟨⟨by omega, by omega⟩, ?_⟩⟩
      rw [e1]
      have hnoA : ¬ L.getD i [] ∈ A := fun z => by
        have z2 := (hm _).mp z
        obtain ⟨j, hj, ej⟩ := mem_gD2 z2
        rw [List.length_take] at hj
        rw [List.getD_eq_getElem?_getD, List.getElem?_take_of_lt (by omega), ← List.getD_eq_getElem?_getD] at ej
        have := gD_inj hnd (by omega) hil ej
        omega
      have hAg : ∀ p, p ∈ A → GdC p ∧ p.length ≤ 2000 := fun p hp => hg p (List.mem_of_mem_take ((hm p).mp hp))
      have inner : ∀ (at_ : Nat) (m2 : PM), at_ ≤ i → (∀ j : Nat, j < at_ → m2 r1 (j : Int) = m1 r1 (j : Int)) → (∀ j : Nat, at_ ≤ j → j < i → m2 r1 ((j : Int) + 1) = m1 r1 (j : Int)) → (∀ j : Nat, i < j → j < L.length → m2 r1 (j : Int) = m1 r1 (j : Int)) → (∀ c j, ¬ c = r1 → m2 c j = m1 c j) → (∀ j, at_ ≤ j → j < i → orH X (L.getD i []) (A.getD j [])) → Wp (d + 5) 101 (15, [some (.ref 84), some (.ref r1), some (.int (zI (L.length : Int))), some (.int (zI (i : Int))), some (.int (zI (u : Int))), some (.int (zI (at_ : Int)))], [], sA μ m2 l) Q := by
        intro at_
        -- the term is put down
        have put : ∀ (at_ : Nat) (m2 m3 : PM), at_ ≤ i → (∀ j : Nat, j < at_ → m2 r1 (j : Int) = m1 r1 (j : Int)) → (∀ j : Nat, at_ ≤ j → j < i → m2 r1 ((j : Int) + 1) = m1 r1 (j : Int)) → (∀ j : Nat, i < j → j < L.length → m2 r1 (j : Int) = m1 r1 (j : Int)) → (∀ c j, ¬ c = r1 → m2 c j = m1 c j) → (∀ j, at_ ≤ j → j < i → orH X (L.getD i []) (A.getD j [])) → (∀ j, j < at_ → orH X (A.getD j []) (L.getD i [])) → m3 = up m2 r1 (at_ : Int) (u : Int) → Wp (d + 5) 101 (2, [some (.ref 84), some (.ref r1), some (.int (zI (L.length : Int))), some (.int (zI ((i : Int) + 1))), some (.int (zI (u : Int))), some (.int (zI (at_ : Int)))], [], sA μ m3 l) Q := by
          intro at_ m2 m3 hat g1 g2 g3 g4 g5 g6 e3
          have f3 : ∀ c j, ¬ c = r1 → m3 c j = m c j := fun c j z => by rw [e3, up_c z, g4 c j z]; exact hf c j z
          have n3 := nm f3
          have cg13 : ∀ t cs, t < T → Cg X q m1 t cs → Cg X q m3 t cs := fun t cs ht h => CgR_cg (T := T) (fun t _ => ⟨(f3 _ _ (by omega)).trans (hf _ _ (by omega)).symm, (f3 _ _ (by omega)).trans (hf _ _ (by omega)).symm, fun i _ => (f3 _ _ (by omega)).trans (hf _ _ (by omega)).symm⟩) _ t cs ht h
          have z := ih (i + 1) m3 (insL at_ (L.getD i []) A) (some (.int (zI (u : Int)))) (some (.int (zI (at_ : Int)))) (by omega) (by omega) (insL_pw (R := orH X) (L := A) (fun {_ _ _} h1 h2 => orH_tr h1 h2) hA (by omega) g6 (fun j j1 j2 => g5 j j1 (by omega))) (by rw [insL_len (by omega)]; omega) (fun t => ?_) (fun j hj => ?_) (fun j j1 j2 => ?_) f3
          · rw [show ((i + 1 : Nat) : Int) = (i : Int) + 1 by omega] at z
            exact z
          · rw [insL_mem, hm t]
            have et : L.take (i + 1) = L.take i ++ [L.getD i []] := by
              rw [List.take_succ_eq_append_getElem hil, List.getD_eq_getElem?_getD, List.getElem?_eq_getElem hil]
              rfl
            rw [et, List.mem_append, List.mem_singleton]
            exact or_comm
          · rw [insL_len (by omega)] at hj
            rw [show (0 : Int) + (j : Int) = (j : Int) by omega]
            by_cases y1 : j < at_
            · obtain ⟨v, v1, v2, v3⟩ := hR j (by omega)
              rw [show (0 : Int) + (j : Int) = (j : Int) by omega] at v1
              refine ⟨v, ?_, v2, by rw [insL_lt (by omega) y1]; exact cg13 _ _ v2 v3⟩
              rw [e3, up_i (by omega), g1 j y1]
              exact v1
            · by_cases y2 : j = at_
              · refine ⟨u, by rw [y2, e3, up_s], u2, by rw [y2, insL_eq (by omega)]; exact n3.2.2 _ _ u2 u3⟩
              · obtain ⟨v, v1, v2, v3⟩ := hR (j - 1) (by omega)
                rw [show (0 : Int) + ((j - 1 : Nat) : Int) = ((j - 1 : Nat) : Int) by omega] at v1
                refine ⟨v, ?_, v2, by rw [insL_gt (by omega) (by omega)]; exact cg13 _ _ v2 v3⟩
                have g := g2 (j - 1) (by omega) (by omega)
                rw [show ((j - 1 : Nat) : Int) + 1 = (j : Int) by omega] at g
                rw [e3, up_i (by omega), g]
                exact v1
          · rw [e3, up_i (by omega), g3 j (by omega) j2]
            exact hrest j (by omega) j2
        induction at_ with
        | zero =>
          intro m2 hat g1 g2 g3 g4 g5
          refine K101_15 (d := d + 2) H TS_ hq ha h0 k1 b1 ⟨⟨by omega, by omega⟩, fun _ => ⟨⟨by omega, by omega⟩, fun m3 e3 => ?_⟩, fun z => absurd (by omega) z⟩
          exact put 0 m2 m3 hat g1 g2 g3 g4 g5 (fun j hj => absurd hj (Nat.not_lt_zero j)) e3
        | succ at_ iha =>
          intro m2 hat g1 g2 g3 g4 g5
          have f2 : ∀ c j, ¬ c = r1 → m2 c j = m c j := fun c j z => (g4 c j z).trans (hf c j z)
          have n2 := nm f2
          obtain ⟨v, v1, v2, v3⟩ := hR at_ (by omega)
          rw [show (0 : Int) + (at_ : Int) = (at_ : Int) by omega] at v1
          have v3' : Cg X q m2 v (A.getD at_ []) := CgR_cg (T := T) (fun t _ => ⟨g4 _ _ (by omega), g4 _ _ (by omega), fun i _ => g4 _ _ (by omega)⟩) _ v _ v2 v3
          have e2 : m2 r1 (at_ : Int) = (v : Int) := (g1 at_ (by omega)).trans v1
          have hAm : A.getD at_ [] ∈ A := gD_in (by omega)
          refine K101_15 (d := d + 2) H TS_ hq ha h0 k1 b1 ⟨⟨by omega, by omega⟩, fun z => absurd z (by omega), fun _ => ?_⟩
          rw [show ((at_ + 1 : Nat) : Int) - 1 = (at_ : Int) by omega, e2]
          refine ⟨⟨by omega, by omega⟩, fun y μ' => Wp (d + 5) 101 (32, [some (.ref 84), some (.ref r1), some (.int (zI (L.length : Int))), some (.int (zI (i : Int))), some (.int (zI (u : Int))), some (.int (zI ((at_ + 1 : Nat) : Int)))], [.int y], μ') Q, noX, ?_, fun _ _ z => z, fun _ _ z => z.elim⟩
          refine k_isBehind (d := d + 1) (Q := pI _ noX) H TS_ hq ha h0 hX n2.1 n2.2.1 v2 u2 v3' (n2.2.2 _ _ u2 u3) (hAg _ hAm).1 (hg _ hmem).1 (hAg _ hAm).2 (fun e => hnoA (by rw [← e]; exact hAm)) (fun ho => ?_) (fun ho => ?_)
          · show Wp (d + 5) 101 (32, _, [.int (zI 1)], _) Q
            refine K101_32 (d := d + 2) H TS_ hq ha h0 k1 b1 ⟨⟨by decide, by decide⟩, fun z => absurd z (by decide), fun _ => ⟨⟨by omega, by omega⟩, ⟨by omega, by omega⟩, fun m3 e3 => ?_⟩⟩
            rw [show ((at_ + 1 : Nat) : Int) - 1 = (at_ : Int) by omega, e2] at e3
            rw [show ((at_ + 1 : Nat) : Int) - 1 = (at_ : Int) by omega]
            refine iha m3 (by omega) (fun j hj => by rw [e3, up_i (by omega)]; exact g1 j (by omega)) (fun j j1 j2 => ?_) (fun j j1 j2 => by rw [e3, up_i (by omega)]; exact g3 j j1 j2) (fun c j z => by rw [e3, up_c z]; exact g4 c j z) (fun j j1 j2 => ?_)
            · by_cases y : j = at_
              · rw [y, e3, show (at_ : Int) + 1 = ((at_ + 1 : Nat) : Int) by omega, up_s]
                exact v1.symm
              · rw [e3, up_i (by omega)]
                exact g2 j (by omega) j2
            · by_cases y : j = at_
              · rw [y]; exact ho
              · exact g5 j (by omega) j2
          · show Wp (d + 5) 101 (32, _, [.int (zI 0)], _) Q
            refine K101_32 (d := d + 2) H TS_ hq ha h0 k1 b1 ⟨⟨by decide, by decide⟩, fun _ => ⟨⟨by omega, by omega⟩, fun m3 e3 => ?_⟩, fun z => absurd rfl z⟩
            refine put (at_ + 1) m2 m3 hat g1 g2 g3 g4 g5 (fun j hj => ?_) e3
            by_cases y : j = at_
            · rw [y]; exact ho
            · have z := List.pairwise_iff_getElem.mp hA j at_ (by omega) (by omega) (by omega)
              have ej : A.getD j [] = A[j]'(by omega) := by rw [List.getD_eq_getElem?_getD, List.getElem?_eq_getElem (by omega)]; rfl
              have ea : A.getD at_ [] = A[at_]'(by omega) := by rw [List.getD_eq_getElem?_getD, List.getElem?_eq_getElem (by omega)]; rfl
              rw [ej]
              rw [ea] at ho
              exact orH_tr z ho
      exact inner i m1 (Nat.le_refl _) (fun _ _ => rfl) (fun j j1 j2 => absurd j2 (by omega)) (fun _ _ _ => rfl) (fun _ _ _ => rfl) (fun j j1 j2 => absurd j2 (by omega))
  refine K101_0 (d := d + 2) H TS_ hq ha h0 k1 b1 ?_
  by_cases hz : L.length = 0
  · have e0 : L = [] := List.eq_nil_of_length_eq_zero hz
    refine K101_2 (d := d + 2) H TS_ hq ha h0 k1 b1 ⟨⟨by decide, by decide⟩, ⟨by omega, by omega⟩, fun _ => hk m L ?_ rfl (fun _ => Iff.rfl) hrow (fun _ _ _ => rfl), fun z => absurd (by omega) z⟩
    rw [e0]
    exact List.Pairwise.nil
  · have z := outer (L.length - 1) 1 m (L.take 1) none none (by omega) (Nat.le_refl _) ?_ (by rw [List.length_take]; omega) (fun _ => Iff.rfl) (fun j hj => ?_) (fun _ _ _ => rfl) (fun _ _ _ => rfl)
    · exact z
    · match L, hz with
      | p :: L, _ =>
        show SrH X [p]
        exact List.pairwise_singleton _ _
    · rw [List.length_take] at hj
      obtain ⟨u, u1, u2, u3⟩ := hrow j (by omega)
      refine ⟨u, u1, u2, ?_⟩
      rw [List.getD_eq_getElem?_getD, List.getElem?_take_of_lt (by omega), ← List.getD_eq_getElem?_getD]
      exact u3
end CAR
