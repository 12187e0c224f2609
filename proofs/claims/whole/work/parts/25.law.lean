/-! ===== printed: the law, by what each case asks of the two ===== -/
theorem nik (i : Nat) (k : Nat) : nI i + Int32.ofInt (k : Int) = nI (i + k) := by
  have e : Int32.ofInt (k : Int) = nI k := by first | rfl | exact Int32.ofInt_eq_ofNat | simp [nI]
  rw [e, nI_add]
/-- the script's int at place j of call i -/
abbrev ar (i : Nat) (j : Int) (μ : am_Mem) : Int32 := am_A μ 0 (nI (4 * i) + Int32.ofInt j).toNatClampNeg
/-- where script, class, reference and out lie -/
def lawF (L : Nat) (xs : Nat → Int32) (μ : am_Mem) : Prop := am_kd μ 0 = (8, L) ∧ (∀ j, am_A μ 0 j = xs j) ∧ am_kd μ 16 = (1, 11) ∧ am_kd μ 125 = (1, 12) ∧ am_kd μ 185 = (6, 1)
theorem ar_eq {L i : Nat} {xs : Nat → Int32} {μ : am_Mem} (h : lawF L xs μ) {j : Nat} (hi : 4 * i + j < 2 ^ 31) : ar i (j : Int) μ = xs (4 * i + j) := by
  show am_A μ 0 _ = _
  rw [nik, nI_clamp hi]
  exact h.2.1 _
theorem lawF_k {L : Nat} {xs : Nat → Int32} {μ : am_Mem} (h : lawF L xs μ) : (am_kd μ 0).1 = 2 ∨ (am_kd μ 0).1 = 8 := by rw [h.1]; exact Or.inr rfl
theorem lawF_i {L i : Nat} {xs : Nat → Int32} {μ : am_Mem} (h : lawF L xs μ) {j : Nat} (hj : 4 * i + j < L) (hL : L ≤ 2048) : ¬ (nI (4 * i) + Int32.ofInt (j : Int) < 0 ∨ (am_kd μ 0).2 ≤ (nI (4 * i) + Int32.ofInt (j : Int)).toNatClampNeg) := by
  rw [h.1, nik]
  exact nI_inn hj (by omega)
theorem lawF_0 {L i : Nat} {xs : Nat → Int32} {μ : am_Mem} (h : lawF L xs μ) (hj : 4 * i < L) (hL : L ≤ 2048) : ¬ (nI (4 * i) < 0 ∨ (am_kd μ 0).2 ≤ (nI (4 * i)).toNatClampNeg) := by
  rw [h.1]
  exact nI_inn hj (by omega)
theorem lawF_o {L : Nat} {xs : Nat → Int32} {μ : am_Mem} (h : lawF L xs μ) : (am_kd μ 185).1 = 6 ∧ ¬ (Int32.ofInt 0 < 0 ∨ (am_kd μ 185).2 ≤ (Int32.ofInt 0).toNatClampNeg) := by
  rw [h.2.2.2.2]
  exact ⟨rfl, by decide⟩
theorem lgc0 (x : Int64) : lg_cmp x x = 0 := by
  unfold lg_cmp
  simp
/-- both called; the thrown kinds are alike, and the answers, if none was thrown -/
def cs2 (L : Nat) (xs : Nat → Int32) (D kw kr : Nat) (W R : am_Mem → List (Option Value)) (I : am_Mem → Prop) (μ : am_Mem) : Prop :=
  Wp D kw (0, W μ, [], μ) (pI (fun k μ1 => lawF L xs μ1 ∧ Wp D kr (0, R μ1, [], μ1) (pI (fun b μ2 => lawF L xs μ2 ∧ I μ2 ∧ am_A μ2 125 0 = k ∧ (k = 0 → am_L μ2 185 (Int32.ofInt 0).toNatClampNeg = b.toInt64)) noX)) noX)
def cs2z (L : Nat) (xs : Nat → Int32) (D kw kr : Nat) (W R : am_Mem → List (Option Value)) (I : am_Mem → Prop) (μ : am_Mem) : Prop :=
  Wp D kw (0, W μ, [], μ) (pI (fun k μ1 => lawF L xs μ1 ∧ Wp D kr (0, R μ1, [], μ1) (pI (fun b μ2 => lawF L xs μ2 ∧ I μ2 ∧ am_A μ2 125 0 = k ∧ (k = 0 → am_L μ2 185 (Int32.ofInt 0).toNatClampNeg = if b = 0 then Int64.ofNat 0 else Int64.ofNat 1)) noX)) noX)
def cs2v (L : Nat) (xs : Nat → Int32) (D kw kr : Nat) (W R : am_Mem → List (Option Value)) (I : am_Mem → Prop) (μ : am_Mem) : Prop :=
  Wp D kw (0, W μ, [], μ) (pI (fun k μ1 => lawF L xs μ1 ∧ Wp D kr (0, R μ1, [], μ1) (pV (fun μ2 => lawF L xs μ2 ∧ I μ2 ∧ am_A μ2 125 0 = k) noX)) noX)
def cs2i (L : Nat) (xs : Nat → Int32) (D kw kr : Nat) (W R : am_Mem → List (Option Value)) (I : am_Mem → Prop) (μ : am_Mem) : Prop :=
  Wp D kw (0, W μ, [], μ) (pI (fun a μ1 => lawF L xs μ1 ∧ Wp D kr (0, R μ1, [], μ1) (pI (fun b μ2 => lawF L xs μ2 ∧ I μ2 ∧ a = b) noX)) noX)
/-- what case c asks of the two at call i, so that I holds behind it -/
def lawC (L : Nat) (xs : Nat → Int32) (D i c : Nat) (I : am_Mem → Prop) (μ : am_Mem) : Prop := match c with
  | 0 => cs2 L xs D 269 149 (fun μ => [some (.ref 16), some (.int (ar i 1 μ)), some (.ref 185), none]) (fun μ => [some (.ref 125), some (.int (ar i 1 μ)), none, none, none, none]) I μ
  | 1 => cs2v L xs D 270 152 (fun μ => [some (.ref 16), some (.int (ar i 1 μ)), none]) (fun μ => [some (.ref 125), some (.int (ar i 1 μ))]) I μ
  | 2 => cs2i L xs D 119 153 (fun μ => [some (.ref 16), none, none]) (fun μ => [some (.ref 125), none, none]) I μ
  | 3 => cs2i L xs D 120 209 (fun μ => [some (.ref 16)]) (fun μ => [some (.ref 125)]) I μ
  | 4 => cs2 L xs D 271 210 (fun μ => [some (.ref 16), some (.int (ar i 1 μ)), some (.ref 185), none]) (fun μ => [some (.ref 125), some (.int (ar i 1 μ))]) I μ
  | 5 => cs2 L xs D 272 211 (fun μ => [some (.ref 16), some (.ref 185), none]) (fun μ => [some (.ref 125), none]) I μ
  | 6 => cs2 L xs D 273 240 (fun μ => [some (.ref 16), some (.int (ar i 1 μ)), some (.ref 185), none]) (fun μ => [some (.ref 125), some (.int (ar i 1 μ)), none, none]) I μ
  | 7 => cs2z L xs D 274 244 (fun μ => [some (.ref 16), some (.ref 185), none]) (fun μ => [some (.ref 125), none]) I μ
  | 8 => cs2 L xs D 275 246 (fun μ => [some (.ref 16), some (.int (ar i 1 μ)), some (.ref 185), none]) (fun μ => [some (.ref 125), some (.int (ar i 1 μ)), none, none]) I μ
  | 9 => cs2 L xs D 276 249 (fun μ => [some (.ref 16), some (.int (ar i 1 μ)), some (.ref 185), none]) (fun μ => [some (.ref 125), some (.int (ar i 1 μ)), none, none, none]) I μ
  | 10 => cs2 L xs D 277 252 (fun μ => [some (.ref 16), some (.int (ar i 1 μ)), some (.int (ar i 2 μ)), some (.int (ar i 3 μ)), some (.ref 185), none]) (fun μ => [some (.ref 125), some (.int (ar i 1 μ)), some (.int (ar i 2 μ)), some (.int (ar i 3 μ)), none, none, none]) I μ
  | 11 => cs2 L xs D 278 253 (fun μ => [some (.ref 16), some (.ref 185), none]) (fun μ => [some (.ref 125), none, none, none]) I μ
  | 12 => cs2 L xs D 279 263 (fun μ => [some (.ref 16), some (.int (ar i 1 μ)), some (.ref 185), none]) (fun μ => [some (.ref 125), some (.int (ar i 1 μ))]) I μ
  | 13 => cs2 L xs D 280 264 (fun μ => [some (.ref 16), some (.int (ar i 1 μ)), some (.int (ar i 2 μ)), some (.ref 185), none]) (fun μ => [some (.ref 125), some (.int (ar i 1 μ)), some (.int (ar i 2 μ)), none]) I μ
  | 14 => cs2 L xs D 281 266 (fun μ => [some (.ref 16), some (.int (ar i 1 μ)), some (.int (ar i 2 μ)), some (.ref 185), none]) (fun μ => [some (.ref 125), some (.int (ar i 1 μ)), some (.int (ar i 2 μ)), none]) I μ
  | 15 => cs2 L xs D 282 267 (fun μ => [some (.ref 16), some (.int (ar i 1 μ)), some (.ref 185), none]) (fun μ => [some (.ref 125), some (.int (ar i 1 μ)), none]) I μ
  | 16 => cs2 L xs D 283 268 (fun μ => [some (.ref 16), some (.int (ar i 1 μ)), some (.ref 185), none]) (fun μ => [some (.ref 125), some (.int (ar i 1 μ)), none, none, none]) I μ
  | _ => I μ
abbrev lawV (i : Nat) (o5 o6 : Option Value) : List (Option Value) := [some (.ref 0), some (.ref 16), some (.ref 125), some (.ref 185), some (.int (nI (4 * i))), o5, o6]
theorem law_0 {L D i : Nat} {xs : Nat → Int32} {I : am_Mem → Prop} {μ : am_Mem} {Q : Option Value ⊕ Nat → am_Mem → Prop} {o5 o6 : Option Value} (hF : lawF L xs μ) (hi : 4 * i + 4 ≤ L) (hL : L ≤ 2048) (hc : lawC L xs D i 0 I μ) (hn : ∀ μ' o5 o6, lawF L xs μ' → I μ' → Wp (D + 1) 295 (985, lawV i o5 o6, [], μ') Q) : Wp (D + 1) 295 (120, lawV i o5 o6, [], μ) Q := by
  refine b295_120 (lawF_k hF) (lawF_i (j := 1) hF (by omega) hL) hc (fun a μ1 h1 => ?_) (fun _ _ h => h.elim)
  obtain ⟨hF1, h1⟩ := h1
  refine b295_131 (lawF_k hF1) (lawF_i (j := 1) hF1 (by omega) hL) hF1.2.2.2.1 h1 (fun b μ2 h2 => ?_) (fun _ _ h => h.elim)
  obtain ⟨hF2, hI2, ht, hv⟩ := h2
  refine b295_143 (P := fun x μ3 => x = am_A μ2 125 0 ∧ μ3 = μ2) (X := noX) hF2.2.2.2.1 (b148_0 hF2.2.2.2.1 ⟨rfl, rfl⟩) ?_ (fun _ _ h => h.elim)
  rintro x μ3 ⟨rfl, rfl⟩
  refine b295_149 (fun _ => ?_) (fun h => absurd ht h)
  refine b295_156 (fun _ => b295_173 (hn _ _ _ hF2 hI2)) (fun h0 => ?_)
  have hv := hv (Classical.not_not.mp h0)
  refine b295_161 (lawF_o hF2).1 (lawF_o hF2).2 (fun _ => b295_173 (hn _ _ _ hF2 hI2)) (fun h => absurd ?_ h)
  rw [hv]
  exact lgc0 _
theorem law_1 {L D i : Nat} {xs : Nat → Int32} {I : am_Mem → Prop} {μ : am_Mem} {Q : Option Value ⊕ Nat → am_Mem → Prop} {o5 o6 : Option Value} (hF : lawF L xs μ) (hi : 4 * i + 4 ≤ L) (hL : L ≤ 2048) (hc : lawC L xs D i 1 I μ) (hn : ∀ μ' o5 o6, lawF L xs μ' → I μ' → Wp (D + 1) 295 (985, lawV i o5 o6, [], μ') Q) : Wp (D + 1) 295 (176, lawV i o5 o6, [], μ) Q := by
  refine b295_176 (lawF_k hF) (lawF_i (j := 1) hF (by omega) hL) hc (fun a μ1 h1 => ?_) (fun _ _ h => h.elim)
  obtain ⟨hF1, h1⟩ := h1
  refine b295_186 (lawF_k hF1) (lawF_i (j := 1) hF1 (by omega) hL) hF1.2.2.2.1 h1 (fun μ2 h2 => ?_) (fun _ _ h => h.elim)
  obtain ⟨hF2, hI2, ht⟩ := h2
  refine b295_198 (P := fun x μ3 => x = am_A μ2 125 0 ∧ μ3 = μ2) (X := noX) hF2.2.2.2.1 (b148_0 hF2.2.2.2.1 ⟨rfl, rfl⟩) ?_ (fun _ _ h => h.elim)
  rintro x μ3 ⟨rfl, rfl⟩
  refine b295_202 (fun _ => ?_) (fun h => absurd ht h)
  exact b295_209 (hn _ _ _ hF2 hI2)
theorem law_2 {L D i : Nat} {xs : Nat → Int32} {I : am_Mem → Prop} {μ : am_Mem} {Q : Option Value ⊕ Nat → am_Mem → Prop} {o5 o6 : Option Value} (hF : lawF L xs μ) (hi : 4 * i + 4 ≤ L) (hL : L ≤ 2048) (hc : lawC L xs D i 2 I μ) (hn : ∀ μ' o5 o6, lawF L xs μ' → I μ' → Wp (D + 1) 295 (985, lawV i o5 o6, [], μ') Q) : Wp (D + 1) 295 (212, lawV i o5 o6, [], μ) Q := by
  refine b295_212 hF.2.2.1 hc (fun a μ1 h1 => ?_) (fun _ _ h => h.elim)
  obtain ⟨hF1, h1⟩ := h1
  refine b295_216 hF1.2.2.2.1 h1 (fun b μ2 h2 => ?_) (fun _ _ h => h.elim)
  obtain ⟨hF2, hI2, rfl⟩ := h2
  exact b295_220 (fun _ => hn _ _ _ hF2 hI2) (fun h => absurd rfl h)
theorem law_3 {L D i : Nat} {xs : Nat → Int32} {I : am_Mem → Prop} {μ : am_Mem} {Q : Option Value ⊕ Nat → am_Mem → Prop} {o5 o6 : Option Value} (hF : lawF L xs μ) (hi : 4 * i + 4 ≤ L) (hL : L ≤ 2048) (hc : lawC L xs D i 3 I μ) (hn : ∀ μ' o5 o6, lawF L xs μ' → I μ' → Wp (D + 1) 295 (985, lawV i o5 o6, [], μ') Q) : Wp (D + 1) 295 (225, lawV i o5 o6, [], μ) Q := by
  refine b295_225 hF.2.2.1 hc (fun a μ1 h1 => ?_) (fun _ _ h => h.elim)
  obtain ⟨hF1, h1⟩ := h1
  refine b295_229 hF1.2.2.2.1 h1 (fun b μ2 h2 => ?_) (fun _ _ h => h.elim)
  obtain ⟨hF2, hI2, rfl⟩ := h2
  exact b295_233 (fun _ => hn _ _ _ hF2 hI2) (fun h => absurd rfl h)
theorem law_4 {L D i : Nat} {xs : Nat → Int32} {I : am_Mem → Prop} {μ : am_Mem} {Q : Option Value ⊕ Nat → am_Mem → Prop} {o5 o6 : Option Value} (hF : lawF L xs μ) (hi : 4 * i + 4 ≤ L) (hL : L ≤ 2048) (hc : lawC L xs D i 4 I μ) (hn : ∀ μ' o5 o6, lawF L xs μ' → I μ' → Wp (D + 1) 295 (985, lawV i o5 o6, [], μ') Q) : Wp (D + 1) 295 (238, lawV i o5 o6, [], μ) Q := by
  refine b295_238 (lawF_k hF) (lawF_i (j := 1) hF (by omega) hL) hc (fun a μ1 h1 => ?_) (fun _ _ h => h.elim)
  obtain ⟨hF1, h1⟩ := h1
  refine b295_249 (lawF_k hF1) (lawF_i (j := 1) hF1 (by omega) hL) hF1.2.2.2.1 h1 (fun b μ2 h2 => ?_) (fun _ _ h => h.elim)
  obtain ⟨hF2, hI2, ht, hv⟩ := h2
  refine b295_261 (P := fun x μ3 => x = am_A μ2 125 0 ∧ μ3 = μ2) (X := noX) hF2.2.2.2.1 (b148_0 hF2.2.2.2.1 ⟨rfl, rfl⟩) ?_ (fun _ _ h => h.elim)
  rintro x μ3 ⟨rfl, rfl⟩
  refine b295_267 (fun _ => ?_) (fun h => absurd ht h)
  refine b295_274 (fun _ => b295_291 (hn _ _ _ hF2 hI2)) (fun h0 => ?_)
  have hv := hv (Classical.not_not.mp h0)
  refine b295_279 (lawF_o hF2).1 (lawF_o hF2).2 (fun _ => b295_291 (hn _ _ _ hF2 hI2)) (fun h => absurd ?_ h)
  rw [hv]
  exact lgc0 _
theorem law_5 {L D i : Nat} {xs : Nat → Int32} {I : am_Mem → Prop} {μ : am_Mem} {Q : Option Value ⊕ Nat → am_Mem → Prop} {o5 o6 : Option Value} (hF : lawF L xs μ) (hi : 4 * i + 4 ≤ L) (hL : L ≤ 2048) (hc : lawC L xs D i 5 I μ) (hn : ∀ μ' o5 o6, lawF L xs μ' → I μ' → Wp (D + 1) 295 (985, lawV i o5 o6, [], μ') Q) : Wp (D + 1) 295 (294, lawV i o5 o6, [], μ) Q := by
  refine b295_294 hc (fun a μ1 h1 => ?_) (fun _ _ h => h.elim)
  obtain ⟨hF1, h1⟩ := h1
  refine b295_299 hF1.2.2.2.1 h1 (fun b μ2 h2 => ?_) (fun _ _ h => h.elim)
  obtain ⟨hF2, hI2, ht, hv⟩ := h2
  refine b295_305 (P := fun x μ3 => x = am_A μ2 125 0 ∧ μ3 = μ2) (X := noX) hF2.2.2.2.1 (b148_0 hF2.2.2.2.1 ⟨rfl, rfl⟩) ?_ (fun _ _ h => h.elim)
  rintro x μ3 ⟨rfl, rfl⟩
  refine b295_311 (fun _ => ?_) (fun h => absurd ht h)
  refine b295_318 (fun _ => b295_335 (hn _ _ _ hF2 hI2)) (fun h0 => ?_)
  have hv := hv (Classical.not_not.mp h0)
  refine b295_323 (lawF_o hF2).1 (lawF_o hF2).2 (fun _ => b295_335 (hn _ _ _ hF2 hI2)) (fun h => absurd ?_ h)
  rw [hv]
  exact lgc0 _
theorem law_6 {L D i : Nat} {xs : Nat → Int32} {I : am_Mem → Prop} {μ : am_Mem} {Q : Option Value ⊕ Nat → am_Mem → Prop} {o5 o6 : Option Value} (hF : lawF L xs μ) (hi : 4 * i + 4 ≤ L) (hL : L ≤ 2048) (hc : lawC L xs D i 6 I μ) (hn : ∀ μ' o5 o6, lawF L xs μ' → I μ' → Wp (D + 1) 295 (985, lawV i o5 o6, [], μ') Q) : Wp (D + 1) 295 (338, lawV i o5 o6, [], μ) Q := by
  refine b295_338 (lawF_k hF) (lawF_i (j := 1) hF (by omega) hL) hc (fun a μ1 h1 => ?_) (fun _ _ h => h.elim)
  obtain ⟨hF1, h1⟩ := h1
  refine b295_349 (lawF_k hF1) (lawF_i (j := 1) hF1 (by omega) hL) hF1.2.2.2.1 h1 (fun b μ2 h2 => ?_) (fun _ _ h => h.elim)
  obtain ⟨hF2, hI2, ht, hv⟩ := h2
  refine b295_361 (P := fun x μ3 => x = am_A μ2 125 0 ∧ μ3 = μ2) (X := noX) hF2.2.2.2.1 (b148_0 hF2.2.2.2.1 ⟨rfl, rfl⟩) ?_ (fun _ _ h => h.elim)
  rintro x μ3 ⟨rfl, rfl⟩
  refine b295_367 (fun _ => ?_) (fun h => absurd ht h)
  refine b295_374 (fun _ => b295_391 (hn _ _ _ hF2 hI2)) (fun h0 => ?_)
  have hv := hv (Classical.not_not.mp h0)
  refine b295_379 (lawF_o hF2).1 (lawF_o hF2).2 (fun _ => b295_391 (hn _ _ _ hF2 hI2)) (fun h => absurd ?_ h)
  rw [hv]
  exact lgc0 _
theorem law_7 {L D i : Nat} {xs : Nat → Int32} {I : am_Mem → Prop} {μ : am_Mem} {Q : Option Value ⊕ Nat → am_Mem → Prop} {o5 o6 : Option Value} (hF : lawF L xs μ) (hi : 4 * i + 4 ≤ L) (hL : L ≤ 2048) (hc : lawC L xs D i 7 I μ) (hn : ∀ μ' o5 o6, lawF L xs μ' → I μ' → Wp (D + 1) 295 (985, lawV i o5 o6, [], μ') Q) : Wp (D + 1) 295 (394, lawV i o5 o6, [], μ) Q := by
  refine b295_394 hc (fun a μ1 h1 => ?_) (fun _ _ h => h.elim)
  obtain ⟨hF1, h1⟩ := h1
  refine b295_399 hF1.2.2.2.1 h1 (fun b μ2 h2 => ?_) (fun _ _ h => h.elim)
  obtain ⟨hF2, hI2, ht, hv⟩ := h2
  refine b295_405 (P := fun x μ3 => x = am_A μ2 125 0 ∧ μ3 = μ2) (X := noX) hF2.2.2.2.1 (b148_0 hF2.2.2.2.1 ⟨rfl, rfl⟩) ?_ (fun _ _ h => h.elim)
  rintro x μ3 ⟨rfl, rfl⟩
  refine b295_411 (fun _ => ?_) (fun h => absurd ht h)
  refine b295_418 (fun _ => b295_442 (hn _ _ _ hF2 hI2)) (fun h0 => ?_)
  have hv := hv (Classical.not_not.mp h0)
  refine b295_423 (lawF_o hF2).1 (lawF_o hF2).2 (fun hb => b295_435 (b295_436 (fun _ => b295_442 (hn _ _ _ hF2 hI2)) (fun h => absurd ?_ h))) (fun hb => b295_431 (b295_436 (fun _ => b295_442 (hn _ _ _ hF2 hI2)) (fun h => absurd ?_ h)))
  · rw [hv, if_pos hb]; exact lgc0 _
  · rw [hv, if_neg hb]; exact lgc0 _
theorem law_8 {L D i : Nat} {xs : Nat → Int32} {I : am_Mem → Prop} {μ : am_Mem} {Q : Option Value ⊕ Nat → am_Mem → Prop} {o5 o6 : Option Value} (hF : lawF L xs μ) (hi : 4 * i + 4 ≤ L) (hL : L ≤ 2048) (hc : lawC L xs D i 8 I μ) (hn : ∀ μ' o5 o6, lawF L xs μ' → I μ' → Wp (D + 1) 295 (985, lawV i o5 o6, [], μ') Q) : Wp (D + 1) 295 (445, lawV i o5 o6, [], μ) Q := by
  refine b295_445 (lawF_k hF) (lawF_i (j := 1) hF (by omega) hL) hc (fun a μ1 h1 => ?_) (fun _ _ h => h.elim)
  obtain ⟨hF1, h1⟩ := h1
  refine b295_456 (lawF_k hF1) (lawF_i (j := 1) hF1 (by omega) hL) hF1.2.2.2.1 h1 (fun b μ2 h2 => ?_) (fun _ _ h => h.elim)
  obtain ⟨hF2, hI2, ht, hv⟩ := h2
  refine b295_468 (P := fun x μ3 => x = am_A μ2 125 0 ∧ μ3 = μ2) (X := noX) hF2.2.2.2.1 (b148_0 hF2.2.2.2.1 ⟨rfl, rfl⟩) ?_ (fun _ _ h => h.elim)
  rintro x μ3 ⟨rfl, rfl⟩
  refine b295_474 (fun _ => ?_) (fun h => absurd ht h)
  refine b295_481 (fun _ => b295_498 (hn _ _ _ hF2 hI2)) (fun h0 => ?_)
  have hv := hv (Classical.not_not.mp h0)
  refine b295_486 (lawF_o hF2).1 (lawF_o hF2).2 (fun _ => b295_498 (hn _ _ _ hF2 hI2)) (fun h => absurd ?_ h)
  rw [hv]
  exact lgc0 _
theorem law_9 {L D i : Nat} {xs : Nat → Int32} {I : am_Mem → Prop} {μ : am_Mem} {Q : Option Value ⊕ Nat → am_Mem → Prop} {o5 o6 : Option Value} (hF : lawF L xs μ) (hi : 4 * i + 4 ≤ L) (hL : L ≤ 2048) (hc : lawC L xs D i 9 I μ) (hn : ∀ μ' o5 o6, lawF L xs μ' → I μ' → Wp (D + 1) 295 (985, lawV i o5 o6, [], μ') Q) : Wp (D + 1) 295 (501, lawV i o5 o6, [], μ) Q := by
  refine b295_501 (lawF_k hF) (lawF_i (j := 1) hF (by omega) hL) hc (fun a μ1 h1 => ?_) (fun _ _ h => h.elim)
  obtain ⟨hF1, h1⟩ := h1
  refine b295_512 (lawF_k hF1) (lawF_i (j := 1) hF1 (by omega) hL) hF1.2.2.2.1 h1 (fun b μ2 h2 => ?_) (fun _ _ h => h.elim)
  obtain ⟨hF2, hI2, ht, hv⟩ := h2
  refine b295_524 (P := fun x μ3 => x = am_A μ2 125 0 ∧ μ3 = μ2) (X := noX) hF2.2.2.2.1 (b148_0 hF2.2.2.2.1 ⟨rfl, rfl⟩) ?_ (fun _ _ h => h.elim)
  rintro x μ3 ⟨rfl, rfl⟩
  refine b295_530 (fun _ => ?_) (fun h => absurd ht h)
  refine b295_537 (fun _ => b295_554 (hn _ _ _ hF2 hI2)) (fun h0 => ?_)
  have hv := hv (Classical.not_not.mp h0)
  refine b295_542 (lawF_o hF2).1 (lawF_o hF2).2 (fun _ => b295_554 (hn _ _ _ hF2 hI2)) (fun h => absurd ?_ h)
  rw [hv]
  exact lgc0 _
theorem law_10 {L D i : Nat} {xs : Nat → Int32} {I : am_Mem → Prop} {μ : am_Mem} {Q : Option Value ⊕ Nat → am_Mem → Prop} {o5 o6 : Option Value} (hF : lawF L xs μ) (hi : 4 * i + 4 ≤ L) (hL : L ≤ 2048) (hc : lawC L xs D i 10 I μ) (hn : ∀ μ' o5 o6, lawF L xs μ' → I μ' → Wp (D + 1) 295 (985, lawV i o5 o6, [], μ') Q) : Wp (D + 1) 295 (557, lawV i o5 o6, [], μ) Q := by
  refine b295_557 (lawF_k hF) (lawF_i (j := 1) hF (by omega) hL) (lawF_k hF) (lawF_i (j := 2) hF (by omega) hL) (lawF_k hF) (lawF_i (j := 3) hF (by omega) hL) hc (fun a μ1 h1 => ?_) (fun _ _ h => h.elim)
  obtain ⟨hF1, h1⟩ := h1
  refine b295_580 (lawF_k hF1) (lawF_i (j := 1) hF1 (by omega) hL) (lawF_k hF1) (lawF_i (j := 2) hF1 (by omega) hL) (lawF_k hF1) (lawF_i (j := 3) hF1 (by omega) hL) hF1.2.2.2.1 h1 (fun b μ2 h2 => ?_) (fun _ _ h => h.elim)
  obtain ⟨hF2, hI2, ht, hv⟩ := h2
  refine b295_604 (P := fun x μ3 => x = am_A μ2 125 0 ∧ μ3 = μ2) (X := noX) hF2.2.2.2.1 (b148_0 hF2.2.2.2.1 ⟨rfl, rfl⟩) ?_ (fun _ _ h => h.elim)
  rintro x μ3 ⟨rfl, rfl⟩
  refine b295_610 (fun _ => ?_) (fun h => absurd ht h)
  refine b295_617 (fun _ => b295_634 (hn _ _ _ hF2 hI2)) (fun h0 => ?_)
  have hv := hv (Classical.not_not.mp h0)
  refine b295_622 (lawF_o hF2).1 (lawF_o hF2).2 (fun _ => b295_634 (hn _ _ _ hF2 hI2)) (fun h => absurd ?_ h)
  rw [hv]
  exact lgc0 _
theorem law_11 {L D i : Nat} {xs : Nat → Int32} {I : am_Mem → Prop} {μ : am_Mem} {Q : Option Value ⊕ Nat → am_Mem → Prop} {o5 o6 : Option Value} (hF : lawF L xs μ) (hi : 4 * i + 4 ≤ L) (hL : L ≤ 2048) (hc : lawC L xs D i 11 I μ) (hn : ∀ μ' o5 o6, lawF L xs μ' → I μ' → Wp (D + 1) 295 (985, lawV i o5 o6, [], μ') Q) : Wp (D + 1) 295 (637, lawV i o5 o6, [], μ) Q := by
  refine b295_637 hc (fun a μ1 h1 => ?_) (fun _ _ h => h.elim)
  obtain ⟨hF1, h1⟩ := h1
  refine b295_642 hF1.2.2.2.1 h1 (fun b μ2 h2 => ?_) (fun _ _ h => h.elim)
  obtain ⟨hF2, hI2, ht, hv⟩ := h2
  refine b295_648 (P := fun x μ3 => x = am_A μ2 125 0 ∧ μ3 = μ2) (X := noX) hF2.2.2.2.1 (b148_0 hF2.2.2.2.1 ⟨rfl, rfl⟩) ?_ (fun _ _ h => h.elim)
  rintro x μ3 ⟨rfl, rfl⟩
  refine b295_654 (fun _ => ?_) (fun h => absurd ht h)
  refine b295_661 (fun _ => b295_678 (hn _ _ _ hF2 hI2)) (fun h0 => ?_)
  have hv := hv (Classical.not_not.mp h0)
  refine b295_666 (lawF_o hF2).1 (lawF_o hF2).2 (fun _ => b295_678 (hn _ _ _ hF2 hI2)) (fun h => absurd ?_ h)
  rw [hv]
  exact lgc0 _
theorem law_12 {L D i : Nat} {xs : Nat → Int32} {I : am_Mem → Prop} {μ : am_Mem} {Q : Option Value ⊕ Nat → am_Mem → Prop} {o5 o6 : Option Value} (hF : lawF L xs μ) (hi : 4 * i + 4 ≤ L) (hL : L ≤ 2048) (hc : lawC L xs D i 12 I μ) (hn : ∀ μ' o5 o6, lawF L xs μ' → I μ' → Wp (D + 1) 295 (985, lawV i o5 o6, [], μ') Q) : Wp (D + 1) 295 (681, lawV i o5 o6, [], μ) Q := by
  refine b295_681 (lawF_k hF) (lawF_i (j := 1) hF (by omega) hL) hc (fun a μ1 h1 => ?_) (fun _ _ h => h.elim)
  obtain ⟨hF1, h1⟩ := h1
  refine b295_692 (lawF_k hF1) (lawF_i (j := 1) hF1 (by omega) hL) hF1.2.2.2.1 h1 (fun b μ2 h2 => ?_) (fun _ _ h => h.elim)
  obtain ⟨hF2, hI2, ht, hv⟩ := h2
  refine b295_704 (P := fun x μ3 => x = am_A μ2 125 0 ∧ μ3 = μ2) (X := noX) hF2.2.2.2.1 (b148_0 hF2.2.2.2.1 ⟨rfl, rfl⟩) ?_ (fun _ _ h => h.elim)
  rintro x μ3 ⟨rfl, rfl⟩
  refine b295_710 (fun _ => ?_) (fun h => absurd ht h)
  refine b295_717 (fun _ => b295_734 (hn _ _ _ hF2 hI2)) (fun h0 => ?_)
  have hv := hv (Classical.not_not.mp h0)
  refine b295_722 (lawF_o hF2).1 (lawF_o hF2).2 (fun _ => b295_734 (hn _ _ _ hF2 hI2)) (fun h => absurd ?_ h)
  rw [hv]
  exact lgc0 _
theorem law_13 {L D i : Nat} {xs : Nat → Int32} {I : am_Mem → Prop} {μ : am_Mem} {Q : Option Value ⊕ Nat → am_Mem → Prop} {o5 o6 : Option Value} (hF : lawF L xs μ) (hi : 4 * i + 4 ≤ L) (hL : L ≤ 2048) (hc : lawC L xs D i 13 I μ) (hn : ∀ μ' o5 o6, lawF L xs μ' → I μ' → Wp (D + 1) 295 (985, lawV i o5 o6, [], μ') Q) : Wp (D + 1) 295 (737, lawV i o5 o6, [], μ) Q := by
  refine b295_737 (lawF_k hF) (lawF_i (j := 1) hF (by omega) hL) (lawF_k hF) (lawF_i (j := 2) hF (by omega) hL) hc (fun a μ1 h1 => ?_) (fun _ _ h => h.elim)
  obtain ⟨hF1, h1⟩ := h1
  refine b295_754 (lawF_k hF1) (lawF_i (j := 1) hF1 (by omega) hL) (lawF_k hF1) (lawF_i (j := 2) hF1 (by omega) hL) hF1.2.2.2.1 h1 (fun b μ2 h2 => ?_) (fun _ _ h => h.elim)
  obtain ⟨hF2, hI2, ht, hv⟩ := h2
  refine b295_772 (P := fun x μ3 => x = am_A μ2 125 0 ∧ μ3 = μ2) (X := noX) hF2.2.2.2.1 (b148_0 hF2.2.2.2.1 ⟨rfl, rfl⟩) ?_ (fun _ _ h => h.elim)
  rintro x μ3 ⟨rfl, rfl⟩
  refine b295_778 (fun _ => ?_) (fun h => absurd ht h)
  refine b295_785 (fun _ => b295_802 (hn _ _ _ hF2 hI2)) (fun h0 => ?_)
  have hv := hv (Classical.not_not.mp h0)
  refine b295_790 (lawF_o hF2).1 (lawF_o hF2).2 (fun _ => b295_802 (hn _ _ _ hF2 hI2)) (fun h => absurd ?_ h)
  rw [hv]
  exact lgc0 _
theorem law_14 {L D i : Nat} {xs : Nat → Int32} {I : am_Mem → Prop} {μ : am_Mem} {Q : Option Value ⊕ Nat → am_Mem → Prop} {o5 o6 : Option Value} (hF : lawF L xs μ) (hi : 4 * i + 4 ≤ L) (hL : L ≤ 2048) (hc : lawC L xs D i 14 I μ) (hn : ∀ μ' o5 o6, lawF L xs μ' → I μ' → Wp (D + 1) 295 (985, lawV i o5 o6, [], μ') Q) : Wp (D + 1) 295 (805, lawV i o5 o6, [], μ) Q := by
  refine b295_805 (lawF_k hF) (lawF_i (j := 1) hF (by omega) hL) (lawF_k hF) (lawF_i (j := 2) hF (by omega) hL) hc (fun a μ1 h1 => ?_) (fun _ _ h => h.elim)
  obtain ⟨hF1, h1⟩ := h1
  refine b295_822 (lawF_k hF1) (lawF_i (j := 1) hF1 (by omega) hL) (lawF_k hF1) (lawF_i (j := 2) hF1 (by omega) hL) hF1.2.2.2.1 h1 (fun b μ2 h2 => ?_) (fun _ _ h => h.elim)
  obtain ⟨hF2, hI2, ht, hv⟩ := h2
  refine b295_840 (P := fun x μ3 => x = am_A μ2 125 0 ∧ μ3 = μ2) (X := noX) hF2.2.2.2.1 (b148_0 hF2.2.2.2.1 ⟨rfl, rfl⟩) ?_ (fun _ _ h => h.elim)
  rintro x μ3 ⟨rfl, rfl⟩
  refine b295_846 (fun _ => ?_) (fun h => absurd ht h)
  refine b295_853 (fun _ => b295_870 (hn _ _ _ hF2 hI2)) (fun h0 => ?_)
  have hv := hv (Classical.not_not.mp h0)
  refine b295_858 (lawF_o hF2).1 (lawF_o hF2).2 (fun _ => b295_870 (hn _ _ _ hF2 hI2)) (fun h => absurd ?_ h)
  rw [hv]
  exact lgc0 _
theorem law_15 {L D i : Nat} {xs : Nat → Int32} {I : am_Mem → Prop} {μ : am_Mem} {Q : Option Value ⊕ Nat → am_Mem → Prop} {o5 o6 : Option Value} (hF : lawF L xs μ) (hi : 4 * i + 4 ≤ L) (hL : L ≤ 2048) (hc : lawC L xs D i 15 I μ) (hn : ∀ μ' o5 o6, lawF L xs μ' → I μ' → Wp (D + 1) 295 (985, lawV i o5 o6, [], μ') Q) : Wp (D + 1) 295 (873, lawV i o5 o6, [], μ) Q := by
  refine b295_873 (lawF_k hF) (lawF_i (j := 1) hF (by omega) hL) hc (fun a μ1 h1 => ?_) (fun _ _ h => h.elim)
  obtain ⟨hF1, h1⟩ := h1
  refine b295_884 (lawF_k hF1) (lawF_i (j := 1) hF1 (by omega) hL) hF1.2.2.2.1 h1 (fun b μ2 h2 => ?_) (fun _ _ h => h.elim)
  obtain ⟨hF2, hI2, ht, hv⟩ := h2
  refine b295_896 (P := fun x μ3 => x = am_A μ2 125 0 ∧ μ3 = μ2) (X := noX) hF2.2.2.2.1 (b148_0 hF2.2.2.2.1 ⟨rfl, rfl⟩) ?_ (fun _ _ h => h.elim)
  rintro x μ3 ⟨rfl, rfl⟩
  refine b295_902 (fun _ => ?_) (fun h => absurd ht h)
  refine b295_909 (fun _ => b295_926 (hn _ _ _ hF2 hI2)) (fun h0 => ?_)
  have hv := hv (Classical.not_not.mp h0)
  refine b295_914 (lawF_o hF2).1 (lawF_o hF2).2 (fun _ => b295_926 (hn _ _ _ hF2 hI2)) (fun h => absurd ?_ h)
  rw [hv]
  exact lgc0 _
theorem law_16 {L D i : Nat} {xs : Nat → Int32} {I : am_Mem → Prop} {μ : am_Mem} {Q : Option Value ⊕ Nat → am_Mem → Prop} {o5 o6 : Option Value} (hF : lawF L xs μ) (hi : 4 * i + 4 ≤ L) (hL : L ≤ 2048) (hc : lawC L xs D i 16 I μ) (hn : ∀ μ' o5 o6, lawF L xs μ' → I μ' → Wp (D + 1) 295 (985, lawV i o5 o6, [], μ') Q) : Wp (D + 1) 295 (929, lawV i o5 o6, [], μ) Q := by
  refine b295_929 (lawF_k hF) (lawF_i (j := 1) hF (by omega) hL) hc (fun a μ1 h1 => ?_) (fun _ _ h => h.elim)
  obtain ⟨hF1, h1⟩ := h1
  refine b295_940 (lawF_k hF1) (lawF_i (j := 1) hF1 (by omega) hL) hF1.2.2.2.1 h1 (fun b μ2 h2 => ?_) (fun _ _ h => h.elim)
  obtain ⟨hF2, hI2, ht, hv⟩ := h2
  refine b295_952 (P := fun x μ3 => x = am_A μ2 125 0 ∧ μ3 = μ2) (X := noX) hF2.2.2.2.1 (b148_0 hF2.2.2.2.1 ⟨rfl, rfl⟩) ?_ (fun _ _ h => h.elim)
  rintro x μ3 ⟨rfl, rfl⟩
  refine b295_958 (fun _ => ?_) (fun h => absurd ht h)
  refine b295_965 (fun _ => b295_982 (hn _ _ _ hF2 hI2)) (fun h0 => ?_)
  have hv := hv (Classical.not_not.mp h0)
  refine b295_970 (lawF_o hF2).1 (lawF_o hF2).2 (fun _ => b295_982 (hn _ _ _ hF2 hI2)) (fun h => absurd ?_ h)
  rw [hv]
  exact lgc0 _
theorem law_sw {L D i : Nat} {xs : Nat → Int32} {I : am_Mem → Prop} {μ : am_Mem} {Q : Option Value ⊕ Nat → am_Mem → Prop} {o5 o6 : Option Value} (hF : lawF L xs μ) (hi : 4 * i + 4 ≤ L) (hL : L ≤ 2048) (hc : ∀ c, c < 32 → xs (4 * i) &&& (Int8.ofInt 31).toInt32 = nI c → lawC L xs D i c I μ) (hn : ∀ μ' o5 o6, lawF L xs μ' → I μ' → Wp (D + 1) 295 (985, lawV i o5 o6, [], μ') Q) : Wp (D + 1) 295 (32, lawV i o5 o6, [], μ) Q := by
  refine b295_32 (lawF_k hF) (lawF_0 hF (by omega) hL) ?_
  rw [nI_clamp (by omega), hF.2.1]
  obtain ⟨c, hc32, e⟩ := pk_andE (xs (4 * i)) (m := 31) 5 (by decide)
  have e2 : xs (4 * i) &&& (Int8.ofInt 31).toInt32 = nI c := e
  have h := hc c hc32 e2
  rw [e2]
  have ht : (nI c).toInt = (c : Int) := by
    have : ∀ c, c < 32 → (nI c).toInt = (c : Int) := by decide +kernel
    exact this c hc32
  refine ⟨fun hq => ?_, fun hq => ?_⟩
  · rw [ht] at hq
    have h17 : 17 ≤ c := by omega
    obtain ⟨k, rfl⟩ : ∃ k, c = k + 17 := ⟨c - 17, by omega⟩
    exact hn _ _ _ hF h
  · rw [ht] at hq ⊢
    match c, hc32, h, hq with
    | 0, _, h, _ => exact ⟨81, 120, rfl, rfl, law_0 hF hi hL h hn⟩
    | 1, _, h, _ => exact ⟨137, 176, rfl, rfl, law_1 hF hi hL h hn⟩
    | 2, _, h, _ => exact ⟨173, 212, rfl, rfl, law_2 hF hi hL h hn⟩
    | 3, _, h, _ => exact ⟨186, 225, rfl, rfl, law_3 hF hi hL h hn⟩
    | 4, _, h, _ => exact ⟨199, 238, rfl, rfl, law_4 hF hi hL h hn⟩
    | 5, _, h, _ => exact ⟨255, 294, rfl, rfl, law_5 hF hi hL h hn⟩
    | 6, _, h, _ => exact ⟨299, 338, rfl, rfl, law_6 hF hi hL h hn⟩
    | 7, _, h, _ => exact ⟨355, 394, rfl, rfl, law_7 hF hi hL h hn⟩
    | 8, _, h, _ => exact ⟨406, 445, rfl, rfl, law_8 hF hi hL h hn⟩
    | 9, _, h, _ => exact ⟨462, 501, rfl, rfl, law_9 hF hi hL h hn⟩
    | 10, _, h, _ => exact ⟨518, 557, rfl, rfl, law_10 hF hi hL h hn⟩
    | 11, _, h, _ => exact ⟨598, 637, rfl, rfl, law_11 hF hi hL h hn⟩
    | 12, _, h, _ => exact ⟨642, 681, rfl, rfl, law_12 hF hi hL h hn⟩
    | 13, _, h, _ => exact ⟨698, 737, rfl, rfl, law_13 hF hi hL h hn⟩
    | 14, _, h, _ => exact ⟨766, 805, rfl, rfl, law_14 hF hi hL h hn⟩
    | 15, _, h, _ => exact ⟨834, 873, rfl, rfl, law_15 hF hi hL h hn⟩
    | 16, _, h, _ => exact ⟨890, 929, rfl, rfl, law_16 hF hi hL h hn⟩
    | k + 17, _, _, hq => exact absurd (Or.inr (by omega)) hq
theorem law_sub : ∀ L, L < 2049 → (Int32.ofNat L - Int32.ofInt 4).toInt = (L : Int) - 4 := by decide +kernel
/-- the law's loop, out of what it asks of the two at each call -/
theorem law_loop {L D : Nat} {xs : Nat → Int32} (hL : L ≤ 2048) (I : Nat → am_Mem → Prop) (hc : ∀ i μ, 4 * i + 4 ≤ L → lawF L xs μ → I i μ → ∀ c, c < 32 → xs (4 * i) &&& (Int8.ofInt 31).toInt32 = nI c → lawC L xs D i c (I (i + 1)) μ) : ∀ m i μ o5 o6, L ≤ 4 * i + m → 4 * i ≤ L → lawF L xs μ → I i μ → Wp (D + 1) 295 (23, lawV i o5 o6, [], μ) (pI (fun x μ' => x = 1 ∧ ∃ j, 4 * j ≤ L ∧ I j μ') noX) := by
  intro m
  induction m using Nat.strongRecOn with
  | _ m ih =>
    intro i μ o5 o6 hm hi4 hF hI
    have hlen : Int32.ofNat L - Int32.ofInt 4 < nI (4 * i) ↔ L < 4 * i + 4 := by
      rw [Int32.lt_iff_toInt_lt, law_sub L (by omega), nI_toInt (by omega)]
      omega
    refine b295_23 (by rw [hF.1]; exact ⟨(by show 2 ≤ 8; omega), (by show 8 ≤ 10; omega), (by show ¬ 8 = 9; omega)⟩) (fun h => ?_) (fun h => ?_)
    · rw [hF.1] at h
      have h2 := hlen.mp h
      refine b295_991 ⟨rfl, i, ?_, hI⟩
      omega
    · rw [hF.1] at h
      have h2 : ¬ L < 4 * i + 4 := fun q => h (hlen.mpr q)
      refine law_sw hF (by omega) hL (hc i μ (by omega) hF hI) (fun μ' o5 o6 hF' hI' => b295_985 ?_)
      have e4 : nI (4 * i) + Int32.ofInt 4 = nI (4 * (i + 1)) := by
        have := nik (4 * i) 4
        rw [show 4 * (i + 1) = 4 * i + 4 by omega]
        exact this
      rw [e4]
      exact ih (m - 4) (by omega) (i + 1) μ' o5 o6 (by omega) (by omega) hF' hI'

