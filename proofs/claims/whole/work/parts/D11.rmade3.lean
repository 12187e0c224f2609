/-! ===== the reference's terms: made ===== -/
theorem TmR_cases {m : PM} {f : Nat} {k : Int} {q : List Cd} (h : TmR (f + 1) m k q) : (∃ a w, q = [(a, w)] ∧ 5 ≤ a ∧ m 139 k = (a : Int) - 5) ∨ ∃ (w : List Int) (ps : List (List Cd)), q = (ps.length, w) :: ps.flatten ∧ ps.length ≤ 4 ∧ nX m (m 138 k) w ∧ m 139 k = -1 ∧ m 140 k = (ps.length : Int) ∧ ∀ i : Nat, i < ps.length → k < m 141 (4 * k + i) ∧ m 141 (4 * k + i) + ((ps.getD i []).length : Int) ≤ k + (q.length : Int) ∧ TmR f m (m 141 (4 * k + i)) (ps.getD i []) := by
  cases q with
  | nil => exact absurd h (fun z => z)
  | cons c rest =>
    obtain ⟨a, w⟩ := c
    by_cases q : 5 ≤ a
    · obtain ⟨h1, h2, h3, h4, h5⟩ := (TmR_v q).mp h
      exact Or.inl ⟨a, w, by rw [h1], q, h3⟩
    · obtain ⟨ps, h1, h2, h3, h4, h5, h6, h7⟩ := (TmR_n q).mp h
      refine Or.inr ⟨w, ps, by rw [h1, h2], by omega, h3, h4, by rw [h5, h1], fun i hi => ?_⟩
      obtain ⟨x, e1, e2, e3, e4⟩ := PsR_get ps 0 (k + 1) h7 i hi
      rw [Nat.zero_add] at e1
      rw [e1]
      refine ⟨by omega, ?_, e4⟩
      rw [h2] at e3
      rw [List.length_cons]
      omega
theorem TmR_wfS {m : PM} : ∀ (f : Nat) (k : Int) (q : List Cd), TmR f m k q → wfS f q := by
  intro f
  induction f with
  | zero => intro k q h; exact absurd h (fun z => z)
  | succ f ih =>
    intro k q h
    rcases TmR_cases h with ⟨a, w, rfl, ha, _⟩ | ⟨w, ps, rfl, hn, _, _, _, hp⟩
    · exact (wfS_v ha).mpr rfl
    · refine (wfS_n (by omega)).mpr ⟨ps, rfl, rfl, fun p hp' => ?_⟩
      obtain ⟨i, hi, e⟩ := mem_gD2 hp'
      rw [← e]
      exact ih _ _ (hp i hi).2.2
theorem TmR_sb {m : PM} {β : Nat → List Cd} : ∀ (f f' : Nat) (k : Int) (q q' : List Cd), TmR f m k q → TmR f' m k q' → sbC β q = sbC β q' := by
  intro f
  induction f with
  | zero => intro f' k q q' h; exact absurd h (fun z => z)
  | succ f ih =>
    intro f' k q q' h h'
    cases f' with
    | zero => exact absurd h' (fun z => z)
    | succ f' =>
      rcases TmR_cases h with ⟨a, w, rfl, ha, e⟩ | ⟨w, ps, rfl, hn, hx, h1, h2, hp⟩
      · rcases TmR_cases h' with ⟨a', w', rfl, ha', e'⟩ | ⟨w', ps', rfl, hn', hx', h1', h2', hp'⟩
        · rw [sbC_var β ha, sbC_var β ha', show a = a' by omega]
        · omega
      · rcases TmR_cases h' with ⟨a', w', rfl, ha', e'⟩ | ⟨w', ps', rfl, hn', hx', h1', h2', hp'⟩
        · omega
        · have el : ps.length = ps'.length := by omega
          have ew : w = w' := nX_fun hx hx'
          rw [sbC_name β hn, sbC_name β hn']
          have ep : ps.map (sbC β) = ps'.map (sbC β) := by
            refine ext_gD2 (by rw [List.length_map, List.length_map]; exact el) fun i hi => ?_
            rw [List.length_map] at hi
            rw [map_gD hi, map_gD (by omega)]
            exact ih f' _ _ _ (hp i hi).2.2 (hp' i (by omega)).2.2
          rw [ep, ew]
/-- the variables of a rule's term are bound -/
def BdM (β : Nat → List Cd) (m : PM) (T : Nat) (k : Int) (n : Nat) : Prop := ∀ i : Nat, i < n → 0 ≤ m 139 (k + i) → m 139 (k + i) < 8 ∧ ∃ u : Nat, m 163 (m 139 (k + i)) = (u : Int) ∧ u < T ∧ Tg m u (β (m 139 (k + i)).toNat)
theorem nd_wf {m : PM} {β : Nat → List Cd} {T n : Nat} {k : Int} (hb : BdM β m T k n) {f i : Nat} {q : List Cd} (h : TmR f m (k + i) q) (hl : i + q.length ≤ n) : wfS (f + T) (sbC β q) := by
  refine sbC_wf f q (fun c hc h5 => ?_) (TmR_wfS f _ _ h)
  obtain ⟨r, hr, e⟩ := List.getElem_of_mem hc
  have z := TmR_nd f _ _ h r hr
  have eg : q.getD r (0, []) = c := by
    rw [List.getD_eq_getElem?_getD, List.getElem?_eq_getElem hr]
    exact e
  rw [eg] at z
  unfold NdR at z
  rw [if_pos h5] at z
  have e2 : k + (i : Int) + (r : Int) = k + ((i + r : Nat) : Int) := by omega
  rw [e2] at z
  obtain ⟨_, u, _, u2, u3⟩ := hb (i + r) (by omega) (by omega)
  have e3 : (m 139 (k + ((i + r : Nat) : Int))).toNat = c.1 - 5 := by omega
  rw [e3] at u3
  exact wfS_mono (u + 1) _ _ (by omega) (TgR_wf _ _ _ u3)
theorem PsR_loc {R : Int → List Cd → Prop} {m : PM} {ct : Nat} {w : Int} : ∀ (ps : List (List Cd)) (j : Nat) (k : Int), PsR R m ct w j k ps → ∀ i : Nat, i < ps.flatten.length → ∃ (a : Nat) (x : Int), a < ps.length ∧ R x (ps.getD a []) ∧ x ≤ k + i ∧ k + (i : Int) < x + ((ps.getD a []).length : Int) ∧ k ≤ x ∧ x + ((ps.getD a []).length : Int) ≤ k + (ps.flatten.length : Int) := by
  intro ps
  induction ps with
  | nil => intro j k _ i hi; exact absurd hi (Nat.not_lt_zero _)
  | cons p ps ih =>
    intro j k h i hi
    obtain ⟨a1, a2, a3⟩ := h
    have hl : (p :: ps).flatten.length = p.length + ps.flatten.length := by simp
    by_cases c : i < p.length
    · exact ⟨0, k, by rw [List.length_cons]; omega, a2, by omega, by show k + (i : Int) < k + (p.length : Int); omega, by omega, by show k + (p.length : Int) ≤ _; omega⟩
    · obtain ⟨a, x, x1, x2, x3, x4, x5, x6⟩ := ih (j + 1) (k + p.length) a3 (i - p.length) (by omega)
      exact ⟨a + 1, x, by rw [List.length_cons]; omega, x2, by omega, by show k + (i : Int) < x + ((ps.getD a []).length : Int); omega, by omega, by show x + ((ps.getD a []).length : Int) ≤ _; omega⟩
/-- the parts of a term that is there are there -/
theorem TmR_exs {m : PM} {β : Nat → List Cd} {T n : Nat} {k0 : Int} (hwf : ∀ (f : Nat) (x : Int) (q : List Cd), TmR f m x q → k0 ≤ x → x + (q.length : Int) ≤ k0 + (n : Int) → ∃ g, wfS g (sbC β q)) : ∀ (f : Nat) (x : Int) (q : List Cd), TmR f m x q → k0 ≤ x → x + (q.length : Int) ≤ k0 + (n : Int) → (∃ t : Nat, t < T ∧ Tg m t (sbC β q)) → ∀ i : Nat, i < q.length → ∀ q', TmR 11 m (x + i) q' → ∃ t : Nat, t < T ∧ Tg m t (sbC β q') := by
  intro f
  induction f with
  | zero => intro x q h; exact absurd h (fun z => z)
  | succ f ih =>
    intro x q h hk hl hex i hi q' hq'
    by_cases i0 : i = 0
    · rw [i0, show x + ((0 : Nat) : Int) = x by omega] at hq'
      rw [← TmR_sb _ _ _ _ _ h hq']
      exact hex
    · cases q with
      | nil => exact absurd hi (Nat.not_lt_zero _)
      | cons c rest =>
        obtain ⟨a, w⟩ := c
        have len1 : ((a, w) :: rest : List Cd).length = rest.length + 1 := rfl
        by_cases c5 : 5 ≤ a
        · rw [((TmR_v c5).mp h).1] at hi
          have hi : i < 1 := hi
          omega
        · obtain ⟨ps, h1, h2, h3, h4, h5, h6, h7⟩ := (TmR_n c5).mp h
          obtain ⟨t, ht, hT⟩ := hex
          have hfl : ps.flatten.length = rest.length := by rw [h2]
          obtain ⟨b, y, y1, y2, y3, y4, y5, y6⟩ := PsR_loc ps 0 (x + 1) h7 (i - 1) (by omega)
          have ew : ((a, w) :: rest : List Cd) = (ps.length, w) :: ps.flatten := by rw [h1, h2]
          rw [ew] at hT
          have hws : ∃ g, ∀ j, j < ps.length → wfS g (sbC β (ps.getD j [])) := by
            obtain ⟨g, hg⟩ := hwf (f + 1) x _ h hk hl
            rw [ew, sbC_name β (by omega)] at hg
            cases g with
            | zero => exact absurd hg (fun z => z)
            | succ g =>
              obtain ⟨qs, r1, r2, r3⟩ := (wfS_n (by rw [List.length_map]; omega)).mp hg
              have hall : ∀ j, j < ps.length → ∃ g', wfS g' (sbC β (ps.getD j [])) := fun j hj => by
                obtain ⟨z, e1, e2, e3, e4⟩ := PsR_get ps 0 (x + 1) h7 j hj
                exact hwf f z _ e4 (by omega) (by rw [hfl] at e3; omega)
              refine ⟨g + T, fun j hj => ?_⟩
              have ep : qs = ps.map (sbC β) := by
                obtain ⟨G, hG⟩ : ∃ G, ∀ p, p ∈ ps.map (sbC β) → wfS G p := by
                  have key : ∀ n : Nat, n ≤ ps.length → ∃ G, ∀ j, j < n → wfS G (sbC β (ps.getD j [])) := by
                    intro n
                    induction n with
                    | zero => intro _; exact ⟨0, fun j hj => absurd hj (Nat.not_lt_zero j)⟩
                    | succ n ihn =>
                      intro hn
                      obtain ⟨G, hG⟩ := ihn (by omega)
                      obtain ⟨g', hg'⟩ := hall n (by omega)
                      refine ⟨G + g', fun j hj => ?_⟩
                      by_cases z : j = n
                      · rw [z]; exact wfS_mono _ _ _ (by omega) hg'
                      · exact wfS_mono _ _ _ (by omega) (hG j (by omega))
                  obtain ⟨G, hG⟩ := key ps.length (Nat.le_refl _)
                  refine ⟨G, fun p hp => ?_⟩
                  obtain ⟨r, s1, s2⟩ := List.mem_map.mp hp
                  obtain ⟨j, hj, ej⟩ := mem_gD2 s1
                  rw [← s2, ← ej]
                  exact hG j hj
                exact (wfS_list (wfS_pre (g + G)) qs (ps.map (sbC β)) [] [] r1 (fun p hp => wfS_mono _ _ _ (by omega) (r3 p hp)) (fun p hp => wfS_mono _ _ _ (by omega) (hG p hp)) (by rw [List.append_nil, List.append_nil]; exact r2)).1
              have hm : sbC β (ps.getD j []) ∈ qs := by
                rw [ep]
                refine List.mem_map.mpr ⟨ps.getD j [], ?_, rfl⟩
                rw [List.getD_eq_getElem?_getD, List.getElem?_eq_getElem hj]
                exact List.getElem_mem hj
              exact wfS_mono _ _ _ (by omega) (r3 _ hm)
          obtain ⟨g, hg⟩ := hws
          obtain ⟨z1, z2, z3⟩ := Tg_un (by omega) hg hT
          obtain ⟨u, u1, u2, u3⟩ := z3 b y1
          have z := ih y _ y2 (by omega) (by rw [hfl] at y6; omega) ⟨u, by omega, u3⟩ (x + (i : Int) - y).toNat (by omega) q' (by rw [show y + (((x + (i : Int) - y).toNat : Nat) : Int) = x + (i : Int) by omega]; exact hq')
          exact z
section RMM
variable {d : Nat} {μ : am_Mem} {l : PM} {Q : Option Value ⊕ Nat → am_Mem → Prop} {p k : Int} {T : Nat} {β : Nat → List Cd}
theorem OkM_fr {m m' : PM} {T T' : Nat} {i : Int} {q : List Cd} (hT : T ≤ T') (h0 : p = 0 → T' = T) (fr : ∀ c x, ¬ (WMd T c x ∨ c = 165) → m' c x = m c x) (e : m' 165 i = m 165 i) (h : OkM β p m T i q) : OkM β p m' T' i q := by
  rcases h with ⟨u, h1, h2, h3⟩ | ⟨h1, h2, h3⟩
  · exact Or.inl ⟨u, e.trans h1, by omega, Tg_fr fr h2 h3⟩
  · refine Or.inr ⟨h1, e.trans h2, fun t ht z => ?_⟩
    rw [h0 h1] at ht
    exact h3 t ht (Tg_fr' fr ht z)
theorem c_made {m : PM} {cs : List Cd} (H : RS μ) (hI : TtI m T) (hU : TtU m T) (hTL : TtL m T) (hD : NmD m) (h9 : m 125 9 ≤ 1010) (hT : T + cs.length ≤ 130000) (hp : p = 0 ∨ p = 1) (hR : ∀ i, iR (m 165 i)) (h : TmR 11 m k cs) (hk : 0 ≤ k ∧ k + (cs.length : Int) ≤ 1100) (hb : BdM β m T k cs.length)
    (hq : ∀ (m' : PM) (T' : Nat), T ≤ T' → T' ≤ T + cs.length → (p = 0 → T' = T) → TtI m' T' → TtU m' T' → TtL m' T' → ((∃ t : Nat, t < T ∧ Tg m t (sbC β cs)) → T' = T) → (∀ c i, ¬ (WMd T c i ∨ (c = 165 ∧ k ≤ i ∧ i < k + (cs.length : Int))) → m' c i = m c i) → (∀ i, iR (m' 165 i)) → OkM β p m' T' k cs → (∀ i : Nat, i < cs.length → ∀ q, TmR 11 m (k + i) q → OkM β p m' T' (k + i) q) → Q (.inl (some (.int (zI (m' 165 k))))) (sA μ m' l)) :
    Wp (d + 2) 204 (0, [some (.ref 125), some (.int (zI k)), some (.int (zI p)), none, none, none, none], [], sA μ m l) Q := by
  have htop := TmR_top h
  have loop : ∀ (f : Nat) (m' : PM) (T' : Nat) (o4 o5 o6 : Option Value), f ≤ cs.length → T ≤ T' → T' + f ≤ T + cs.length → (p = 0 → T' = T) → TtI m' T' → TtU m' T' → TtL m' T' → ((∃ t : Nat, t < T ∧ Tg m t (sbC β cs)) → T' = T) → (∀ c i, ¬ (WMd T c i ∨ (c = 165 ∧ k ≤ i ∧ i < k + (cs.length : Int))) → m' c i = m c i) → (∀ i, iR (m' 165 i)) → (∀ i : Nat, f ≤ i → i < cs.length → ∀ q, TmR 11 m (k + i) q → OkM β p m' T' (k + i) q) → Wp (d + 2) 204 (9, [some (.ref 125), some (.int (zI k)), some (.int (zI p)), some (.int (zI (k + (f : Int) - 1))), o4, o5, o6], [], sA μ m' l) Q := by
    intro f
    induction f with
    | zero =>
      intro m' T' o4 o5 o6 _ t1 t2 t3 i1 i2 iL iE fr r ok
      refine R204_9 H ⟨⟨by omega, by omega⟩, ⟨by omega, by omega⟩, fun _ => ⟨⟨by omega, by omega⟩, ?_⟩, fun y => by omega⟩
      have z := ok 0 (Nat.le_refl _) (by omega) cs (by rw [show k + ((0 : Nat) : Int) = k by omega]; exact h)
      rw [show k + ((0 : Nat) : Int) = k by omega] at z
      exact hq m' T' t1 (by omega) t3 i1 i2 iL iE fr r z (fun i hi q hq' => ok i (Nat.zero_le _) hi q hq')
    | succ f ih =>
      intro m' T' o4 o5 o6 hf t1 t2 t3 i1 i2 iL iE fr r ok
      have ej : k + ((f + 1 : Nat) : Int) - 1 = k + (f : Int) := by omega
      rw [ej]
      obtain ⟨q, hq1, hq2⟩ := TmR_sub 11 k cs h f (by omega)
      have e139 : m' 139 (k + (f : Int)) = m 139 (k + (f : Int)) := fr _ _ (by omega)
      have fr' : ∀ c x, ¬ (WMd T c x ∨ c = 165) → m' c x = m c x := fun c x y => fr c x (by omega)
      have e9 : m' 125 9 = m 125 9 := fr _ _ (by omega)
      have hD' : NmD m' := NmD_cg e9 (fun i => fr _ _ (by omega)) (fun i => fr _ _ (by omega)) hD
      rcases TmR_cases hq1 with ⟨a, w, rfl, ha, ea⟩ | ⟨w, ps, rfl, hn, hx, h1, h2, hps⟩
      · obtain ⟨b1, u, b2, b3, b4⟩ := hb f (by omega) (by omega)
        have e163 : m' 163 (m 139 (k + (f : Int))) = (u : Int) := by rw [fr _ _ (by omega)]; exact b2
        refine R204_9 H ⟨⟨by omega, by omega⟩, ⟨by omega, by omega⟩, fun y => by omega, fun _ => ⟨⟨by omega, by omega⟩, by rw [e139]; exact ⟨by omega, by omega⟩, fun y => by omega, fun _ => ⟨by rw [e139]; exact ⟨by omega, b1⟩, ?_⟩⟩⟩
        rw [e139, e163]
        rintro m1 rfl
        have k1 : ∀ c i, ¬ c = 165 → up m' 165 (k + (f : Int)) (u : Int) c i = m' c i := fun c i y => up_c y
        refine ih _ T' _ _ _ (by omega) t1 (by omega) t3 (TtI_cg (k1 _ _ (by decide)) (fun t ht => k1 _ _ (by decide)) (fun t ht => k1 _ _ (by decide)) (fun i y1 y2 => k1 _ _ (by decide)) (fun i => by rw [k1 _ _ (by decide)]; exact i1.2.2.1 i) (fun i hi => k1 _ _ (by decide)) i1) (TtU_cg i1 (fun t ht => k1 _ _ (by decide)) (fun t ht => k1 _ _ (by decide)) (fun i y1 y2 => k1 _ _ (by decide)) i2) (TtL_cg i1 (k1 _ _ (by decide)) (fun i => k1 _ _ (by decide)) (fun t ht => k1 _ _ (by decide)) (fun t ht => k1 _ _ (by decide)) (fun i y1 y2 => k1 _ _ (by decide)) (fun t ht => k1 _ _ (by decide)) iL) iE (fun c i y => by rw [up_o (by omega)]; exact fr c i y) (fun i => ?_) (fun i y1 y2 q' hq' => ?_)
        · by_cases y : i = k + (f : Int)
          · rw [y, up_s]
            have := i1.2.1
            exact ⟨by omega, by omega⟩
          · rw [up_i y]
            exact r i
        · by_cases y : i = f
          · rw [y] at hq' ⊢
            refine Or.inl ⟨u, up_s _ _ _ _, by omega, ?_⟩
            rw [← TmR_sb 11 11 _ _ _ hq1 hq', sbC_var β ha]
            have e3 : (m 139 (k + (f : Int))).toNat = a - 5 := by omega
            rw [e3] at b4
            exact Tg_fr (T := T) (fun c x z => by rw [up_c (by omega)]; exact fr' c x z) b3 b4
          · exact OkM_fr (Nat.le_refl _) (fun _ => rfl) (fun c x z => up_c (by omega)) (up_i (by omega)) (ok i (by omega) y2 q' hq')
      · refine R204_9 H ⟨⟨by omega, by omega⟩, ⟨by omega, by omega⟩, fun y => by omega, fun _ => ⟨⟨by omega, by omega⟩, by rw [e139]; exact ⟨by omega, by omega⟩, fun _ => ?_, fun y => by omega⟩⟩
        have i141 : ∀ i : Nat, m' 141 (4 * (k + (f : Int)) + i) = m 141 (4 * (k + (f : Int)) + i) := fun i => fr _ _ (by omega)
        have at_ : ∀ i : Nat, i < ps.length → ∃ x : Nat, m 141 (4 * (k + (f : Int)) + i) = k + (x : Int) ∧ f < x ∧ x + (ps.getD i []).length ≤ cs.length ∧ 1 ≤ (ps.getD i []).length ∧ TmR 10 m (k + (x : Int)) (ps.getD i []) := by
          intro i hi
          obtain ⟨a1, a2, a3⟩ := hps i hi
          have ex : m 141 (4 * (k + (f : Int)) + i) = k + (((m 141 (4 * (k + (f : Int)) + i) - k).toNat : Nat) : Int) := by omega
          rw [ex] at a3
          exact ⟨(m 141 (4 * (k + (f : Int)) + i) - k).toNat, ex, by omega, by omega, (TmR_top a3).1, a3⟩
        refine md_node (β := β) (ps := ps) (w := w) (f := 10 + T) H i1 i2 iL hD' (by omega) hp ⟨by omega, by omega⟩ r hn (by rw [fr _ _ (by omega)]; exact h2) (by rw [fr 138 _ (by omega)]; exact nX_cg e9 (fun i => fr _ _ (by omega)) (fun i => fr _ _ (by omega)) hx) (by rw [e9]; exact h9) (fun i hi => ?_) (fun i hi => ?_) (fun m2 T2 s1 s2 s3 j1 j2 jL jE fr2 r2 ok2 o4 o5 o6 => ?_) o6
        · obtain ⟨x, x1, x2, x3, x4, x5⟩ := at_ i hi
          exact nd_wf hb x5 x3
        · obtain ⟨x, x1, x2, x3, x4, x5⟩ := at_ i hi
          rw [i141, x1]
          exact ⟨⟨by omega, by omega⟩, ok x (by omega) (by omega) _ (TmR_mono 10 11 _ _ (by omega) x5)⟩
        · refine ih m2 T2 o4 o5 o6 (by omega) (by omega) (by omega) (fun p0 => by rw [s3 p0]; exact t3 p0) j1 j2 jL (fun hx => ?_) (fun c i y => ?_) r2 (fun i y1 y2 q' hq' => ?_)
          · have eT := iE hx
            obtain ⟨t, ht, hTg⟩ := TmR_exs (T := T) (n := cs.length) (k0 := k) (fun f' x q' hh y1 y2 => ⟨_, nd_wf hb (i := (x - k).toNat) (by rw [show k + (((x - k).toNat : Nat) : Int) = x by omega]; exact hh) (by omega)⟩) 11 k cs h (Int.le_refl _) (Int.le_refl _) hx f (by omega) _ hq1
            rw [jE ⟨t, by omega, Tg_fr (T := T) fr' ht hTg⟩, eT]
          · rw [fr2 c i (by omega)]
            exact fr c i y
          · by_cases y : i = f
            · rw [y] at hq' ⊢
              unfold OkM at ok2 ⊢
              rw [← TmR_sb 11 11 _ _ _ hq1 hq']
              exact ok2
            · exact OkM_fr s1 s3 (fun c x z => fr2 c x (by omega)) (fr2 _ _ (by omega)) (ok i (by omega) y2 q' hq')
  refine R204_0 H ⟨⟨by omega, by omega⟩, ?_⟩
  rw [htop.2]
  exact loop cs.length m T none none none (Nat.le_refl _) (Nat.le_refl _) (Nat.le_refl _) (fun _ => rfl) hI hU hTL (fun _ => rfl) (fun _ _ _ => rfl) hR (fun i y1 y2 => by omega)
end RMM
