/-! ===== reads and writes of the lifted memory; the shape of the cells ===== -/
section LM
variable {M μ : am_Mem} {m l : PM} {R c f N t k pc d : Nat} {J X : Int32} {Y : Int64} {e v n : Int} {V : Nat × Nat} {lv lv' : List (Option Value)} {st st' : List Value} {Q : Option Value ⊕ Nat → am_Mem → Prop}
theorem mr (μ : am_Mem) (m l : PM) : sA μ m l = sA μ m l := rfl
theorem kdE (pM : M = sA μ m l) (pR : R = c) (hk : am_kd μ c = V) : am_kd M R = V := by
  rw [pM, pR]
  exact hk
theorem frE (pM : M = sA μ m l) (pR : R = c) {r : Nat} (hF : am_F μ c f = r) : am_F M R f = r := by
  rw [pM, pR]
  exact hF
theorem nnE {r : Nat} (p : R = r) (h : ¬ r = 15) : ¬ R = 15 := by rw [p]; exact h
theorem rfE (pM : M = sA μ m l) (pR : R = c) (hf : ((f : Nat) : Int) = e) : am_A M R f = zI (m c e) := by
  rw [pM, pR, ← hf]
  rfl
theorem rlE (pM : M = sA μ m l) (pR : R = c) (hf : ((f : Nat) : Int) = e) : am_L M R f = zL (l c e) := by
  rw [pM, pR, ← hf]
  rfl
theorem rdE (pM : M = sA μ m l) (pR : R = c) (pJ : J = zI e) (g : 0 ≤ e ∧ e < n) (hn : n ≤ 2147483648) : am_A M R J.toNatClampNeg = zI (m c e) := by
  rw [pM, pR]
  show zI (m c ((J.toNatClampNeg : Nat) : Int)) = _
  rw [clE pJ g hn]
theorem rdlE (pM : M = sA μ m l) (pR : R = c) (pJ : J = zI e) (g : 0 ≤ e ∧ e < n) (hn : n ≤ 2147483648) : am_L M R J.toNatClampNeg = zL (l c e) := by
  rw [pM, pR]
  show zL (l c ((J.toNatClampNeg : Nat) : Int)) = _
  rw [clE pJ g hn]
theorem wfE (pM : M = sA μ m l) (pR : R = c) (hf : ((f : Nat) : Int) = e) (pX : X = zI v) : am_pA M R f X = sA μ (up m c e v) l := by
  rw [pM, pR, pX, ← hf]
  refine Prod.ext rfl (Prod.ext rfl (Prod.ext rfl (Prod.ext ?_ rfl)))
  funext c' j'
  show (if c' = c ∧ j' = f then zI v else zI (m c' j')) = zI (if c' = c ∧ ((j' : Nat) : Int) = f then v else m c' j')
  by_cases h : c' = c ∧ j' = f
  · rw [if_pos h, if_pos ⟨h.1, by rw [h.2]⟩]
  · rw [if_neg h, if_neg (fun z => h ⟨z.1, Int.ofNat.inj z.2⟩)]
theorem wlE (pM : M = sA μ m l) (pR : R = c) (hf : ((f : Nat) : Int) = e) (pX : Y = zL v) : am_pL M R f Y = sA μ m (up l c e v) := by
  rw [pM, pR, pX, ← hf]
  refine Prod.ext rfl (Prod.ext rfl (Prod.ext rfl (Prod.ext rfl (Prod.ext ?_ rfl))))
  funext c' j'
  show (if c' = c ∧ j' = f then zL v else zL (l c' j')) = zL (if c' = c ∧ ((j' : Nat) : Int) = f then v else l c' j')
  by_cases h : c' = c ∧ j' = f
  · rw [if_pos h, if_pos ⟨h.1, by rw [h.2]⟩]
  · rw [if_neg h, if_neg (fun z => h ⟨z.1, Int.ofNat.inj z.2⟩)]
theorem wrE (pM : M = sA μ m l) (pR : R = c) (pJ : J = zI e) (g : 0 ≤ e ∧ e < n) (hn : n ≤ 2147483648) (pX : X = zI v) : am_pA M R J.toNatClampNeg X = sA μ (up m c e v) l := wfE pM pR (clE pJ g hn) pX
theorem wrlE (pM : M = sA μ m l) (pR : R = c) (pJ : J = zI e) (g : 0 ≤ e ∧ e < n) (hn : n ≤ 2147483648) (pX : Y = zL v) : am_pL M R J.toNatClampNeg Y = sA μ m (up l c e v) := wlE pM pR (clE pJ g hn) pX
theorem k1E (h : am_kd M R = (t, N)) : (am_kd M R).1 = t := by rw [h]
theorem k2E (h : am_kd M R = (2, N)) : (am_kd M R).1 = 2 ∨ (am_kd M R).1 = 8 := Or.inl (by rw [h])
theorem k3E (h : am_kd M R = (3, N)) : (am_kd M R).1 = 3 ∨ (am_kd M R).1 = 4 ∨ (am_kd M R).1 = 10 := Or.inl (by rw [h])
theorem k4E (h : am_kd M R = (4, N)) : (am_kd M R).1 = 3 ∨ (am_kd M R).1 = 4 ∨ (am_kd M R).1 = 10 := Or.inr (Or.inl (by rw [h]))
theorem k34 (h : am_kd M R = (3, N)) : (am_kd M R).1 = 3 ∨ (am_kd M R).1 = 4 := Or.inl (by rw [h])
theorem k44 (h : am_kd M R = (4, N)) : (am_kd M R).1 = 3 ∨ (am_kd M R).1 = 4 := Or.inr (by rw [h])
theorem klE (h : am_kd M R = (t, N)) (ht : 2 ≤ t ∧ t ≤ 10 ∧ ¬ t = 9) : 2 ≤ (am_kd M R).1 ∧ (am_kd M R).1 ≤ 10 ∧ ¬ (am_kd M R).1 = 9 := by rw [h]; exact ht
theorem lenE (h : am_kd M R = (t, N)) (hn : ((N : Nat) : Int) = n) : Int32.ofNat (am_kd M R).2 = zI n := by
  rw [h, ← hn]
  exact Int32.ofInt_eq_ofNat.symm
theorem ixE (h : am_kd M R = (t, N)) (pJ : J = zI e) (g : 0 ≤ e ∧ e < n) (hn : ((N : Nat) : Int) = n) (hN : n ≤ 2147483648) : ¬ (J < 0 ∨ (am_kd M R).2 ≤ J.toNatClampNeg) := by
  have hc := clE pJ g hN
  rw [h]
  rintro (q | q)
  · rw [ltE pJ z0 (by omega) (by omega)] at q
    omega
  · have q2 : N ≤ J.toNatClampNeg := q
    omega
theorem nr3E (h : am_kd M R = (3, N)) (pX : X = zI v) (g : -128 ≤ v ∧ v ≤ 127) : am_nar (am_kd M R).1 X = zI v := by
  rw [h]
  show (if (3 : Nat) = 2 then X else if (3 : Nat) = 3 then X.toInt8.toInt32 else _) = _
  rw [if_neg (by decide), if_pos rfl]
  exact i2bE pX g
theorem nr4E (h : am_kd M R = (4, N)) (pX : X = zI v) (g : v = 0 ∨ v = 1) : am_nar (am_kd M R).1 X = zI v := by
  rw [h, pX]
  rcases g with rfl | rfl
  · show am_nar 4 (zI 0) = zI 0
    decide
  · show am_nar 4 (zI 1) = zI 1
    decide
theorem nbE (pX : X = zI v) (g : v = 0 ∨ v = 1) : narrow .boolean (.int X) = .int X ∧ fits .boolean (.int X) = true := by
  rw [pX]
  rcases g with rfl | rfl <;> decide
theorem consE {α : Type} {a b : α} {as bs : List α} (p : a = b) (q : as = bs) : a :: as = b :: bs := by rw [p, q]
theorem liE (p : X = zI v) : some (Value.int X) = some (Value.int (zI v)) := by rw [p]
theorem ljE (p : Y = zL v) : some (Value.long Y) = some (Value.long (zL v)) := by rw [p]
theorem laE (p : R = c) : some (Value.ref R) = some (Value.ref c) := by rw [p]
theorem viE (p : X = zI v) : Value.int X = Value.int (zI v) := by rw [p]
theorem vjE (p : Y = zL v) : Value.long Y = Value.long (zL v) := by rw [p]
theorem vaE (p : R = c) : Value.ref R = Value.ref c := by rw [p]
theorem wpT {M' : am_Mem} (hl : lv = lv') (hs : st = st') (hm : M = M') (h : Wp d k (pc, lv', st', M') Q) : Wp d k (pc, lv, st, M) Q := by
  rw [hl, hs, hm]
  exact h
theorem qT {M' : am_Mem} {o o' : Option Value ⊕ Nat} (ho : o = o') (hm : M = M') (h : Q o' M') : Q o M := by
  rw [ho, hm]
  exact h
theorem riE (p : X = zI v) : (Sum.inl (some (Value.int X)) : Option Value ⊕ Nat) = .inl (some (.int (zI v))) := by rw [p]
theorem rjE (p : Y = zL v) : (Sum.inl (some (Value.long Y)) : Option Value ⊕ Nat) = .inl (some (.long (zL v))) := by rw [p]
theorem raE (p : R = c) : (Sum.inl (some (Value.ref R)) : Option Value ⊕ Nat) = .inl (some (.ref c)) := by rw [p]
theorem nXE (pM : M = sA μ m l) : am_nX M = sA (am_nX μ) m l := by rw [pM]; rfl
theorem sA_self (μ : am_Mem) : μ = sA μ (fun c i => (am_A μ c i.toNat).toInt) (fun c i => (am_L μ c i.toNat).toInt) := by
  unfold sA
  refine Prod.ext rfl (Prod.ext rfl (Prod.ext rfl (Prod.ext ?_ (Prod.ext ?_ rfl))))
  · funext c j
    exact (zI_rev _).symm
  · funext c j
    exact (zL_rev _).symm
theorem sA_sA (m' l' : PM) : sA (sA μ m l) m' l' = sA μ m' l' := rfl
theorem nI_zI (n : Nat) : nI n = zI n := by first | rfl | exact Int32.ofInt_eq_ofNat.symm
end LM
def rKd : List (Nat × Nat) := [(1, 12), (2, 2000), (2, 2000), (2, 2000), (2, 17600), (2, 1100), (2, 61), (2, 62), (2, 500), (2, 500), (2, 600), (2, 2400), (2, 600), (2, 1100), (2, 1100), (2, 1100), (2, 4400), (2, 1100), (2, 11), (2, 11), (2, 11), (2, 8), (4, 1100), (2, 1100), (2, 130000), (2, 130000), (2, 520000), (2, 130000), (2, 262144), (2, 1001), (2, 4004), (2, 1001), (2, 4096), (2, 1100), (2, 1100), (2, 1100), (2, 8), (2, 9), (2, 8), (2, 8), (2, 1100), (2, 1100), (2, 1100), (2, 4), (2, 61), (2, 12000), (3, 887880), (2, 302), (2, 4), (3, 196196), (2, 4), (2, 3000), (4, 300), (2, 300), (2, 12000), (2, 600), (2, 600), (2, 300), (4, 300), (4, 300)]
def rFd : List Nat := [15, 126, 15, 15, 15, 127, 15, 128, 15, 15, 129, 130, 15, 131, 132, 15, 133, 134, 15, 135, 136, 137, 15, 138, 139, 140, 141, 142, 15, 15, 15, 15, 15, 15, 15, 143, 144, 145, 15, 146, 147, 148, 15, 149, 150, 151, 152, 153, 15, 154, 155, 156, 157, 158, 159, 160, 15, 15, 15, 161, 162, 163, 164, 165, 166, 167, 168, 169, 15, 15, 15, 170, 15, 171, 172, 15, 173, 174, 175, 176, 15, 15, 15, 15, 177, 178, 179, 180, 181, 15, 15, 182, 183, 184]
/-- the reference's cells are as they were made -/
def RS (μ : am_Mem) : Prop := (∀ i, i < 60 → am_kd μ (125 + i) = rKd.getD i (0, 0)) ∧ ∀ f, f < 94 → am_F μ 125 f = rFd.getD f 15
section RSH
variable {μ : am_Mem}
theorem rK_125 (H : RS μ) : am_kd μ 125 = (1, 12) := H.1 0 (by decide)
theorem rK_126 (H : RS μ) : am_kd μ 126 = (2, 2000) := H.1 1 (by decide)
theorem rK_127 (H : RS μ) : am_kd μ 127 = (2, 2000) := H.1 2 (by decide)
theorem rK_128 (H : RS μ) : am_kd μ 128 = (2, 2000) := H.1 3 (by decide)
theorem rK_129 (H : RS μ) : am_kd μ 129 = (2, 17600) := H.1 4 (by decide)
theorem rK_130 (H : RS μ) : am_kd μ 130 = (2, 1100) := H.1 5 (by decide)
theorem rK_131 (H : RS μ) : am_kd μ 131 = (2, 61) := H.1 6 (by decide)
theorem rK_132 (H : RS μ) : am_kd μ 132 = (2, 62) := H.1 7 (by decide)
theorem rK_133 (H : RS μ) : am_kd μ 133 = (2, 500) := H.1 8 (by decide)
theorem rK_134 (H : RS μ) : am_kd μ 134 = (2, 500) := H.1 9 (by decide)
theorem rK_135 (H : RS μ) : am_kd μ 135 = (2, 600) := H.1 10 (by decide)
theorem rK_136 (H : RS μ) : am_kd μ 136 = (2, 2400) := H.1 11 (by decide)
theorem rK_137 (H : RS μ) : am_kd μ 137 = (2, 600) := H.1 12 (by decide)
theorem rK_138 (H : RS μ) : am_kd μ 138 = (2, 1100) := H.1 13 (by decide)
theorem rK_139 (H : RS μ) : am_kd μ 139 = (2, 1100) := H.1 14 (by decide)
theorem rK_140 (H : RS μ) : am_kd μ 140 = (2, 1100) := H.1 15 (by decide)
theorem rK_141 (H : RS μ) : am_kd μ 141 = (2, 4400) := H.1 16 (by decide)
theorem rK_142 (H : RS μ) : am_kd μ 142 = (2, 1100) := H.1 17 (by decide)
theorem rK_143 (H : RS μ) : am_kd μ 143 = (2, 11) := H.1 18 (by decide)
theorem rK_144 (H : RS μ) : am_kd μ 144 = (2, 11) := H.1 19 (by decide)
theorem rK_145 (H : RS μ) : am_kd μ 145 = (2, 11) := H.1 20 (by decide)
theorem rK_146 (H : RS μ) : am_kd μ 146 = (2, 8) := H.1 21 (by decide)
theorem rK_147 (H : RS μ) : am_kd μ 147 = (4, 1100) := H.1 22 (by decide)
theorem rK_148 (H : RS μ) : am_kd μ 148 = (2, 1100) := H.1 23 (by decide)
theorem rK_149 (H : RS μ) : am_kd μ 149 = (2, 130000) := H.1 24 (by decide)
theorem rK_150 (H : RS μ) : am_kd μ 150 = (2, 130000) := H.1 25 (by decide)
theorem rK_151 (H : RS μ) : am_kd μ 151 = (2, 520000) := H.1 26 (by decide)
theorem rK_152 (H : RS μ) : am_kd μ 152 = (2, 130000) := H.1 27 (by decide)
theorem rK_153 (H : RS μ) : am_kd μ 153 = (2, 262144) := H.1 28 (by decide)
theorem rK_154 (H : RS μ) : am_kd μ 154 = (2, 1001) := H.1 29 (by decide)
theorem rK_155 (H : RS μ) : am_kd μ 155 = (2, 4004) := H.1 30 (by decide)
theorem rK_156 (H : RS μ) : am_kd μ 156 = (2, 1001) := H.1 31 (by decide)
theorem rK_157 (H : RS μ) : am_kd μ 157 = (2, 4096) := H.1 32 (by decide)
theorem rK_158 (H : RS μ) : am_kd μ 158 = (2, 1100) := H.1 33 (by decide)
theorem rK_159 (H : RS μ) : am_kd μ 159 = (2, 1100) := H.1 34 (by decide)
theorem rK_160 (H : RS μ) : am_kd μ 160 = (2, 1100) := H.1 35 (by decide)
theorem rK_161 (H : RS μ) : am_kd μ 161 = (2, 8) := H.1 36 (by decide)
theorem rK_162 (H : RS μ) : am_kd μ 162 = (2, 9) := H.1 37 (by decide)
theorem rK_163 (H : RS μ) : am_kd μ 163 = (2, 8) := H.1 38 (by decide)
theorem rK_164 (H : RS μ) : am_kd μ 164 = (2, 8) := H.1 39 (by decide)
theorem rK_165 (H : RS μ) : am_kd μ 165 = (2, 1100) := H.1 40 (by decide)
theorem rK_166 (H : RS μ) : am_kd μ 166 = (2, 1100) := H.1 41 (by decide)
theorem rK_167 (H : RS μ) : am_kd μ 167 = (2, 1100) := H.1 42 (by decide)
theorem rK_168 (H : RS μ) : am_kd μ 168 = (2, 4) := H.1 43 (by decide)
theorem rK_169 (H : RS μ) : am_kd μ 169 = (2, 61) := H.1 44 (by decide)
theorem rK_170 (H : RS μ) : am_kd μ 170 = (2, 12000) := H.1 45 (by decide)
theorem rK_171 (H : RS μ) : am_kd μ 171 = (3, 887880) := H.1 46 (by decide)
theorem rK_172 (H : RS μ) : am_kd μ 172 = (2, 302) := H.1 47 (by decide)
theorem rK_173 (H : RS μ) : am_kd μ 173 = (2, 4) := H.1 48 (by decide)
theorem rK_174 (H : RS μ) : am_kd μ 174 = (3, 196196) := H.1 49 (by decide)
theorem rK_175 (H : RS μ) : am_kd μ 175 = (2, 4) := H.1 50 (by decide)
theorem rK_176 (H : RS μ) : am_kd μ 176 = (2, 3000) := H.1 51 (by decide)
theorem rK_177 (H : RS μ) : am_kd μ 177 = (4, 300) := H.1 52 (by decide)
theorem rK_178 (H : RS μ) : am_kd μ 178 = (2, 300) := H.1 53 (by decide)
theorem rK_179 (H : RS μ) : am_kd μ 179 = (2, 12000) := H.1 54 (by decide)
theorem rK_180 (H : RS μ) : am_kd μ 180 = (2, 600) := H.1 55 (by decide)
theorem rK_181 (H : RS μ) : am_kd μ 181 = (2, 600) := H.1 56 (by decide)
theorem rK_182 (H : RS μ) : am_kd μ 182 = (2, 300) := H.1 57 (by decide)
theorem rK_183 (H : RS μ) : am_kd μ 183 = (4, 300) := H.1 58 (by decide)
theorem rK_184 (H : RS μ) : am_kd μ 184 = (4, 300) := H.1 59 (by decide)
theorem rF_1 (H : RS μ) : am_F μ 125 1 = 126 := H.2 1 (by decide)
theorem rF_5 (H : RS μ) : am_F μ 125 5 = 127 := H.2 5 (by decide)
theorem rF_7 (H : RS μ) : am_F μ 125 7 = 128 := H.2 7 (by decide)
theorem rF_10 (H : RS μ) : am_F μ 125 10 = 129 := H.2 10 (by decide)
theorem rF_11 (H : RS μ) : am_F μ 125 11 = 130 := H.2 11 (by decide)
theorem rF_13 (H : RS μ) : am_F μ 125 13 = 131 := H.2 13 (by decide)
theorem rF_14 (H : RS μ) : am_F μ 125 14 = 132 := H.2 14 (by decide)
theorem rF_16 (H : RS μ) : am_F μ 125 16 = 133 := H.2 16 (by decide)
theorem rF_17 (H : RS μ) : am_F μ 125 17 = 134 := H.2 17 (by decide)
theorem rF_19 (H : RS μ) : am_F μ 125 19 = 135 := H.2 19 (by decide)
theorem rF_20 (H : RS μ) : am_F μ 125 20 = 136 := H.2 20 (by decide)
theorem rF_21 (H : RS μ) : am_F μ 125 21 = 137 := H.2 21 (by decide)
theorem rF_23 (H : RS μ) : am_F μ 125 23 = 138 := H.2 23 (by decide)
theorem rF_24 (H : RS μ) : am_F μ 125 24 = 139 := H.2 24 (by decide)
theorem rF_25 (H : RS μ) : am_F μ 125 25 = 140 := H.2 25 (by decide)
theorem rF_26 (H : RS μ) : am_F μ 125 26 = 141 := H.2 26 (by decide)
theorem rF_27 (H : RS μ) : am_F μ 125 27 = 142 := H.2 27 (by decide)
theorem rF_35 (H : RS μ) : am_F μ 125 35 = 143 := H.2 35 (by decide)
theorem rF_36 (H : RS μ) : am_F μ 125 36 = 144 := H.2 36 (by decide)
theorem rF_37 (H : RS μ) : am_F μ 125 37 = 145 := H.2 37 (by decide)
theorem rF_39 (H : RS μ) : am_F μ 125 39 = 146 := H.2 39 (by decide)
theorem rF_40 (H : RS μ) : am_F μ 125 40 = 147 := H.2 40 (by decide)
theorem rF_41 (H : RS μ) : am_F μ 125 41 = 148 := H.2 41 (by decide)
theorem rF_43 (H : RS μ) : am_F μ 125 43 = 149 := H.2 43 (by decide)
theorem rF_44 (H : RS μ) : am_F μ 125 44 = 150 := H.2 44 (by decide)
theorem rF_45 (H : RS μ) : am_F μ 125 45 = 151 := H.2 45 (by decide)
theorem rF_46 (H : RS μ) : am_F μ 125 46 = 152 := H.2 46 (by decide)
theorem rF_47 (H : RS μ) : am_F μ 125 47 = 153 := H.2 47 (by decide)
theorem rF_49 (H : RS μ) : am_F μ 125 49 = 154 := H.2 49 (by decide)
theorem rF_50 (H : RS μ) : am_F μ 125 50 = 155 := H.2 50 (by decide)
theorem rF_51 (H : RS μ) : am_F μ 125 51 = 156 := H.2 51 (by decide)
theorem rF_52 (H : RS μ) : am_F μ 125 52 = 157 := H.2 52 (by decide)
theorem rF_53 (H : RS μ) : am_F μ 125 53 = 158 := H.2 53 (by decide)
theorem rF_54 (H : RS μ) : am_F μ 125 54 = 159 := H.2 54 (by decide)
theorem rF_55 (H : RS μ) : am_F μ 125 55 = 160 := H.2 55 (by decide)
theorem rF_59 (H : RS μ) : am_F μ 125 59 = 161 := H.2 59 (by decide)
theorem rF_60 (H : RS μ) : am_F μ 125 60 = 162 := H.2 60 (by decide)
theorem rF_61 (H : RS μ) : am_F μ 125 61 = 163 := H.2 61 (by decide)
theorem rF_62 (H : RS μ) : am_F μ 125 62 = 164 := H.2 62 (by decide)
theorem rF_63 (H : RS μ) : am_F μ 125 63 = 165 := H.2 63 (by decide)
theorem rF_64 (H : RS μ) : am_F μ 125 64 = 166 := H.2 64 (by decide)
theorem rF_65 (H : RS μ) : am_F μ 125 65 = 167 := H.2 65 (by decide)
theorem rF_66 (H : RS μ) : am_F μ 125 66 = 168 := H.2 66 (by decide)
theorem rF_67 (H : RS μ) : am_F μ 125 67 = 169 := H.2 67 (by decide)
theorem rF_71 (H : RS μ) : am_F μ 125 71 = 170 := H.2 71 (by decide)
theorem rF_73 (H : RS μ) : am_F μ 125 73 = 171 := H.2 73 (by decide)
theorem rF_74 (H : RS μ) : am_F μ 125 74 = 172 := H.2 74 (by decide)
theorem rF_76 (H : RS μ) : am_F μ 125 76 = 173 := H.2 76 (by decide)
theorem rF_77 (H : RS μ) : am_F μ 125 77 = 174 := H.2 77 (by decide)
theorem rF_78 (H : RS μ) : am_F μ 125 78 = 175 := H.2 78 (by decide)
theorem rF_79 (H : RS μ) : am_F μ 125 79 = 176 := H.2 79 (by decide)
theorem rF_84 (H : RS μ) : am_F μ 125 84 = 177 := H.2 84 (by decide)
theorem rF_85 (H : RS μ) : am_F μ 125 85 = 178 := H.2 85 (by decide)
theorem rF_86 (H : RS μ) : am_F μ 125 86 = 179 := H.2 86 (by decide)
theorem rF_87 (H : RS μ) : am_F μ 125 87 = 180 := H.2 87 (by decide)
theorem rF_88 (H : RS μ) : am_F μ 125 88 = 181 := H.2 88 (by decide)
theorem rF_91 (H : RS μ) : am_F μ 125 91 = 182 := H.2 91 (by decide)
theorem rF_92 (H : RS μ) : am_F μ 125 92 = 183 := H.2 92 (by decide)
theorem rF_93 (H : RS μ) : am_F μ 125 93 = 184 := H.2 93 (by decide)
end RSH
