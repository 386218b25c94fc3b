/-! ===== the classes' fields ===== -/
def clY (c : Nat) : Nat → FieldType := [tyX0, tyX1, tyX2, tyX3, tyX4, tyX5, tyX6, tyX7, tyX9, tyX10].getD c tyX0
def fkb (c k : Nat) : Bool := match fkOf c k, clY c k with
  | 0, .int => true
  | 1, .boolean => true
  | 2, .object _ => true
  | 2, .array _ => true
  | _, _ => false
theorem cl_10 {P : Nat → Prop} (h0 : P 0) (h1 : P 1) (h2 : P 2) (h3 : P 3) (h4 : P 4) (h5 : P 5) (h6 : P 6) (h7 : P 7) (h8 : P 8) (h9 : P 9) : ∀ c, c < 10 → P c := by
  intro c hc
  match c, hc with
  | 0, _ => exact h0
  | 1, _ => exact h1
  | 2, _ => exact h2
  | 3, _ => exact h3
  | 4, _ => exact h4
  | 5, _ => exact h5
  | 6, _ => exact h6
  | 7, _ => exact h7
  | 8, _ => exact h8
  | 9, _ => exact h9
  | c + 10, h => omega
theorem cl_in0 : ∀ c, c < 10 → ∀ w ∈ u_ws (clN c) (clT c) (clS c), w ∈ lw_tbl :=
  cl_10 (by decide +kernel) (by decide +kernel) (by decide +kernel) (by decide +kernel) (by decide +kernel) (by decide +kernel) (by decide +kernel) (by decide +kernel) (by decide +kernel) (by decide +kernel)
theorem cl_ty : ∀ c, c < 10 → ∀ k, k < clS c → parseFieldDescriptor (clT c k).2.2.1 = some (clY c k) :=
  cl_10 tyX0_ok tyX1_ok tyX2_ok tyX3_ok tyX4_ok tyX5_ok tyX6_ok tyX7_ok tyX9_ok tyX10_ok
theorem cl_nm : ∀ c, c < 10 → ∀ a, a < clS c → ∀ b, b < clS c → a ≠ b → (clT c a).2.1 ≠ (clT c b).2.1 :=
  cl_10 nmX0 nmX1 nmX2 nmX3 nmX4 nmX5 nmX6 nmX7 nmX9 nmX10
theorem cl_fk : ∀ c, c < 10 → ∀ k, k < clS c → fkb c k = true :=
  cl_10 (by decide +kernel) (by decide +kernel) (by decide +kernel) (by decide +kernel) (by decide +kernel) (by decide +kernel) (by decide +kernel) (by decide +kernel) (by decide +kernel) (by decide +kernel)
theorem cl_at : ∀ c, c < 10 → vwCl[c]? = some (clN c, clT c, clS c) :=
  cl_10 rfl rfl rfl rfl rfl rfl rfl rfl rfl rfl
theorem cl_gd : ∀ c, c < 10 → (u_ws (clN c) (clT c) (clS c)).all goodWord = true :=
  cl_10 (by decide +kernel) (by decide +kernel) (by decide +kernel) (by decide +kernel) (by decide +kernel) (by decide +kernel) (by decide +kernel) (by decide +kernel) (by decide +kernel) (by decide +kernel)
/-- the words that a callee may take on trust -/
def gdT : List Jvm.Cond := lw_tbl.filter goodWord
theorem gdT_good : ∀ w ∈ gdT, w ∈ lw_tbl ∧ goodWord w = true := fun w h => List.mem_filter.mp h
theorem tq_in {t : Nat} {c : Jvm.Cond} (h : tq t c = true) : c ∈ gdT := by
  unfold tq at h
  rw [Bool.and_eq_true] at h
  exact List.mem_filter.mpr ⟨List.mem_of_getElem? (of_decide_eq_true h.2), h.1⟩
theorem tn_in {t : Nat} {c : Jvm.Cond} (h : tn t c = true) : c ∈ lw_tbl := List.mem_of_getElem? (of_decide_eq_true h)
theorem fk_cases {c k : Nat} (h : fkb c k = true) : (fkOf c k = 0 ∧ clY c k = .int) ∨ (fkOf c k = 1 ∧ clY c k = .boolean) ∨ (fkOf c k = 2 ∧ ((∃ n, clY c k = .object n) ∨ ∃ t, clY c k = .array t)) := by
  unfold fkb at h
  split at h
  · rename_i h1 h2; exact Or.inl ⟨h1, h2⟩
  · rename_i h1 h2; exact Or.inr (Or.inl ⟨h1, h2⟩)
  · rename_i n h1 h2; exact Or.inr (Or.inr ⟨h1, Or.inl ⟨n, h2⟩⟩)
  · rename_i n h1 h2; exact Or.inr (Or.inr ⟨h1, Or.inr ⟨n, h2⟩⟩)
  · exact absurd h (by decide)
theorem cl_in : ∀ c, c < 10 → ∀ w ∈ u_ws (clN c) (clT c) (clS c), w ∈ gdT := fun c hc w hw => List.mem_filter.mpr ⟨cl_in0 c hc w hw, List.all_eq_true.mp (cl_gd c hc) w hw⟩
