/-! ===== the abstract machine is sound: numbers ===== -/
theorem so_ofI {z : Int} (h : inR z) : (Int32.ofInt z).toInt = z := by
  rw [Int32.toInt_ofInt]
  exact Int.bmod_eq_of_le (by show -(((2 ^ 32 : Nat) : Int) / 2) ≤ z; omega) (by show z < (((2 ^ 32 : Nat) : Int) + 1) / 2; omega)
theorem so_ofL {z : Int} (h : inRL z) : (Int64.ofInt z).toInt = z := by
  rw [Int64.toInt_ofInt]
  exact Int.bmod_eq_of_le (by show -(((2 ^ 64 : Nat) : Int) / 2) ≤ z; omega) (by show z < (((2 ^ 64 : Nat) : Int) + 1) / 2; omega)
theorem so_rng (x : Int32) : inR x.toInt := by
  have h1 := Int32.le_toInt x
  have h2 := Int32.toInt_lt x
  omega
theorem so_nat {n : Nat} (h : n < 2 ^ 31) : Int32.ofInt (n : Int) = nI n := by
  apply Int32.toInt_inj.mp
  rw [so_ofI (by omega), nI_toInt h]
theorem so_lt {x y : Int} (hx : inR x) (hy : inR y) : Int32.ofInt x < Int32.ofInt y ↔ x < y := by
  rw [Int32.lt_iff_toInt_lt, so_ofI hx, so_ofI hy]
theorem so_le {x y : Int} (hx : inR x) (hy : inR y) : Int32.ofInt x ≤ Int32.ofInt y ↔ x ≤ y := by
  rw [Int32.le_iff_toInt_le, so_ofI hx, so_ofI hy]
theorem so_eq {x y : Int} (hx : inR x) (hy : inR y) : Int32.ofInt x = Int32.ofInt y ↔ x = y := by
  rw [← Int32.toInt_inj, so_ofI hx, so_ofI hy]
theorem so_0 : inR 0 := by omega
theorem so_clamp {x : Int} (hx : inR x) (h0 : 0 ≤ x) : (Int32.ofInt x).toNatClampNeg = x.toNat := by
  show (Int32.ofInt x).toInt.toNat = _
  rw [so_ofI hx]
theorem so_in {x : Int} {n : Nat} (hx : inR x) (h : 0 ≤ x ∧ x < n) : ¬ (Int32.ofInt x < 0 ∨ n ≤ (Int32.ofInt x).toNatClampNeg) := by
  rw [so_clamp hx h.1, show (0 : Int32) = Int32.ofInt 0 from rfl, so_lt hx so_0]
  omega
theorem so_div {x y : Int} (hx : inR x) (hy : inR y) (h0 : 0 ≤ x) (h1 : 0 < y) : Int32.ofInt x / Int32.ofInt y = Int32.ofInt (x / y) := by
  obtain ⟨a, rfl⟩ := Int.eq_ofNat_of_zero_le h0
  obtain ⟨b, rfl⟩ := Int.eq_ofNat_of_zero_le (Int.le_of_lt h1)
  have ha : a < 2 ^ 31 := by omega
  have hb : b < 2 ^ 31 := by omega
  have hd : a / b < 2 ^ 31 := Nat.lt_of_le_of_lt (Nat.div_le_self a b) ha
  rw [so_nat ha, so_nat hb, pk_div ha (by omega) hb, ← so_nat hd]
  rfl
theorem so_rem {x y : Int} (hx : inR x) (hy : inR y) (h0 : 0 ≤ x) (h1 : 0 < y) : Int32.ofInt x - Int32.ofInt x / Int32.ofInt y * Int32.ofInt y = Int32.ofInt (x % y) := by
  obtain ⟨a, rfl⟩ := Int.eq_ofNat_of_zero_le h0
  obtain ⟨b, rfl⟩ := Int.eq_ofNat_of_zero_le (Int.le_of_lt h1)
  have ha : a < 2 ^ 31 := by omega
  have hb : b < 2 ^ 31 := by omega
  have hd : a % b < 2 ^ 31 := Nat.lt_of_le_of_lt (Nat.mod_le a b) ha
  rw [so_nat ha, so_nat hb, pk_rem ha (by omega) hb, ← so_nat hd]
  rfl
theorem so_sl : ∀ n, n < 32 → ((nI n &&& 31).toBitVec.smod 32).toNat = n := by decide +kernel
theorem so_shl {x y : Int} (h0 : 0 ≤ x) (h1 : 0 ≤ y) (h2 : y < 32) (hz : inR (x * 2 ^ y.toNat)) : Int32.ofInt x <<< (Int32.ofInt y &&& 31) = Int32.ofInt (x * 2 ^ y.toNat) := by
  obtain ⟨a, rfl⟩ := Int.eq_ofNat_of_zero_le h0
  obtain ⟨b, rfl⟩ := Int.eq_ofNat_of_zero_le h1
  have hb : b < 32 := by omega
  rw [Int.toNat_natCast] at hz ⊢
  have e : (a : Int) * 2 ^ b = ((a * 2 ^ b : Nat) : Int) := by rw [Int.natCast_mul, Int.natCast_pow]; rfl
  rw [e] at hz ⊢
  have h3 : a * 2 ^ b < 2 ^ 31 := by omega
  have h4 : a < 2 ^ 31 := Nat.lt_of_le_of_lt (Nat.le_mul_of_pos_right a (Nat.two_pow_pos b)) h3
  rw [so_nat h4, so_nat (by omega), pk_shlN _ b (so_sl b hb) (by omega), so_nat h3]
theorem so_shr {x y : Int} (hx : inR x) (h0 : 0 ≤ x) (h1 : 0 ≤ y) (h2 : y < 32) : Int32.ofInt x >>> (Int32.ofInt y &&& 31) = Int32.ofInt (x / 2 ^ y.toNat) := by
  obtain ⟨a, rfl⟩ := Int.eq_ofNat_of_zero_le h0
  obtain ⟨b, rfl⟩ := Int.eq_ofNat_of_zero_le h1
  have hb : b < 32 := by omega
  have ha : a < 2 ^ 31 := by omega
  rw [Int.toNat_natCast]
  have e : (a : Int) / 2 ^ b = ((a / 2 ^ b : Nat) : Int) := by rw [Int.natCast_ediv, Int.natCast_pow]; rfl
  have h3 : a / 2 ^ b < 2 ^ 31 := Nat.lt_of_le_of_lt (Nat.div_le_self _ _) ha
  rw [e, so_nat ha, so_nat (by omega), pk_shrN ha _ b (so_sl b hb), so_nat h3]
theorem so_divR {x y : Int} (hx : inR x) (h0 : 0 ≤ x) (h1 : 0 < y) : inR (x / y) ∧ 0 ≤ x / y := by
  have h2 := Int.ediv_le_self y h0
  have h3 := Int.ediv_nonneg h0 (Int.le_of_lt h1)
  omega
theorem so_remR {x y : Int} (hx : inR x) (h0 : 0 ≤ x) (h1 : 0 < y) : inR (x % y) := by
  have h2 := Int.emod_nonneg x (show y ≠ 0 by omega)
  have h3 : x % y ≤ x := by
    have := Int.emod_add_mul_ediv x y
    have h4 := Int.mul_nonneg (Int.le_of_lt h1) (Int.ediv_nonneg h0 (Int.le_of_lt h1))
    omega
  omega
theorem so_and (x y : Int) : Int32.ofInt x &&& Int32.ofInt y = Int32.ofInt (andI x y) := (Int32.ofInt_toInt _).symm
theorem so_or (x y : Int) : Int32.ofInt x ||| Int32.ofInt y = Int32.ofInt (orI x y) := (Int32.ofInt_toInt _).symm
theorem so_andR (x y : Int) : inR (andI x y) := so_rng _
theorem so_orR (x y : Int) : inR (orI x y) := so_rng _
theorem so_i2l {x : Int} (hx : inR x) : (Int32.ofInt x).toInt64 = Int64.ofInt x := by
  apply Int64.toInt_inj.mp
  rw [Int32.toInt_toInt64, so_ofI hx, so_ofL (by omega)]
theorem so_cmp {x y : Int} (hx : inRL x) (hy : inRL y) : lg_cmp (Int64.ofInt x) (Int64.ofInt y) = Int32.ofInt (if y < x then 1 else if x = y then 0 else -1) := by
  have h1 : Int64.ofInt y < Int64.ofInt x ↔ y < x := by rw [Int64.lt_iff_toInt_lt, so_ofL hx, so_ofL hy]
  have h2 : Int64.ofInt x = Int64.ofInt y ↔ x = y := by rw [← Int64.toInt_inj, so_ofL hx, so_ofL hy]
  unfold lg_cmp
  by_cases a : y < x
  · simp [h1, a]
  · by_cases b : x = y
    · subst b; simp
    · simp [h1, h2, a, b]
theorem so_cats : ∀ (Γ : GG) (st : List AV), ((st.map (cV Γ)).map fun v => v.category).sum = cats st
  | _, [] => rfl
  | Γ, .inl _ :: st => by
    have h := so_cats Γ st
    exact congrArg (fun k => 1 + k) h
  | Γ, .inr (.inl _) :: st => by
    have h := so_cats Γ st
    exact congrArg (fun k => 2 + k) h
  | Γ, .inr (.inr none) :: st => by
    have h := so_cats Γ st
    exact congrArg (fun k => 1 + k) h
  | Γ, .inr (.inr (some _)) :: st => by
    have h := so_cats Γ st
    exact congrArg (fun k => 1 + k) h
theorem so_tail {v : AV} {st : List AV} (h : ∀ u ∈ v :: st, okV u) : ∀ u ∈ st, okV u := fun u hu => h u (List.mem_cons_of_mem _ hu)
theorem so_head {v : AV} {st : List AV} (h : ∀ u ∈ v :: st, okV u) : okV v := h v List.mem_cons_self
theorem so_push {v : AV} {st : List AV} (hv : okV v) (h : ∀ u ∈ st, okV u) : ∀ u ∈ v :: st, okV u := List.forall_mem_cons.mpr ⟨hv, h⟩
-- locals
theorem so_getset : ∀ (ls : LL) (i : Nat) (v : AV) (j : Nat), getL (setL ls i v) j = if j = i then some v else getL ls j
  | [], 0, v, 0 => rfl
  | [], 0, v, j + 1 => by simp [setL, getL]
  | [], i + 1, v, 0 => by simp [setL, getL]
  | [], i + 1, v, j + 1 => by
    have h := so_getset [] i v j
    simp only [setL, getL, h, Nat.add_right_cancel_iff]
  | _ :: xs, 0, v, 0 => rfl
  | _ :: xs, 0, v, j + 1 => by simp [setL, getL]
  | x :: xs, i + 1, v, 0 => by simp [setL, getL]
  | x :: xs, i + 1, v, j + 1 => by
    have h := so_getset xs i v j
    simp only [setL, getL, h, Nat.add_right_cancel_iff]
def lvR (Γ : GG) (n : Nat) (ls : LL) : List (Nat × Value) := (List.range n).filterMap (fun i => (getL ls i).map (fun v => (i, cV Γ v)))
theorem so_lvR {Γ : GG} {μ : Nat} {ls : LL} {lc : Array Slot} (hL : LR Γ μ ls lc) : lv_has lc (mxl μ) (lvR Γ (mxl μ) ls) := by
  refine ⟨hL.1, hL.2.1, fun q hq => ?_⟩
  obtain ⟨i, -, hi⟩ := List.mem_filterMap.mp hq
  cases hg : getL ls i with
  | none => rw [hg] at hi; cases hi
  | some v =>
    rw [hg] at hi
    cases hi
    exact (hL.2.2 i v hg).1
/-- a local is set: the slots' own step, as the rows give it -/
theorem so_set {Γ : GG} {μ : Nat} {ls : LL} {lc lc' : Array Slot} {i : Nat} {v : AV} (hL : LR Γ μ ls lc) (hv : okV v) (hc : (cV Γ v).category = 1)
    (h' : lv_has lc' (mxl μ) ((i, cV Γ v) :: (lvR Γ (mxl μ) ls).filter (fun q => !(q.1 == i) && !(q.1 + 1 == i && q.2.category == 2)))) : LR Γ μ (setL ls i v) lc' := by
  refine ⟨h'.1, h'.2.1, fun j u hj => ?_⟩
  rw [so_getset] at hj
  by_cases e : j = i
  · rw [if_pos e] at hj
    cases hj
    subst e
    exact ⟨h'.2.2 (j, cV Γ v) List.mem_cons_self, hv, hc⟩
  · rw [if_neg e] at hj
    obtain ⟨a1, a2, a3⟩ := hL.2.2 j u hj
    refine ⟨h'.2.2 (j, cV Γ u) (List.mem_cons_of_mem _ (List.mem_filter.mpr ⟨List.mem_filterMap.mpr ⟨j, List.mem_range.mpr ?_, by rw [hj]; rfl⟩, ?_⟩)), a2, a3⟩
    · rw [← hL.1]; exact lv_lt a1
    · simp [e, a3]
