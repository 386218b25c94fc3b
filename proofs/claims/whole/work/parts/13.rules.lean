/-! ===== the rules, instruction by instruction: numbers, locals, branches ===== -/
abbrev KOK (Γ : GG) (μ : Nat) (Q : QT) (K : KT) : Prop := ∀ pc ls st cs sl w M, K pc ls st cs sl w M → wp Γ μ pc ls st cs sl w M Q
section Rules
variable {Γ : GG} {μ pc : Nat} {ls : LL} {st : List AV} {cs sl : Nat} {w : Wd} {M : MM} {Q : QT} {K : KT}
theorem r_iload_n {k : Fin 4} (hK : KOK Γ μ Q K) (hd : decode (mcode μ) pc = .ok (.iload_n k, 1)) (h : ldI K k.val 1 pc ls st cs sl w M) : wp Γ μ pc ls st cs sl w M Q := by
  unfold ldI at h
  split at h
  · rename_i x hx
    intro p e R s m args below meth c H locs lc Z C hH hL hSt hS hR
    obtain ⟨a1, a2, a3⟩ := hL.2.2 _ _ hx
    exact lv_iload_n C.1 C.2.1 hd rfl a1 (hK _ _ _ _ _ _ _ h p e R s m args below meth c H locs lc Z C hH hL (so_push a2 hSt) hS hR)
  · exact h.elim
theorem r_iload {k : Nat} (hK : KOK Γ μ Q K) (hd : decode (mcode μ) pc = .ok (.iload k, 2)) (h : ldI K k 2 pc ls st cs sl w M) : wp Γ μ pc ls st cs sl w M Q := by
  unfold ldI at h
  split at h
  · rename_i x hx
    intro p e R s m args below meth c H locs lc Z C hH hL hSt hS hR
    obtain ⟨a1, a2, a3⟩ := hL.2.2 _ _ hx
    exact lv_iload C.1 C.2.1 hd a1 (hK _ _ _ _ _ _ _ h p e R s m args below meth c H locs lc Z C hH hL (so_push a2 hSt) hS hR)
  · exact h.elim
theorem r_aload_n {k : Fin 4} (hK : KOK Γ μ Q K) (hd : decode (mcode μ) pc = .ok (.aload_n k, 1)) (h : ldA K k.val 1 pc ls st cs sl w M) : wp Γ μ pc ls st cs sl w M Q := by
  unfold ldA at h
  split at h
  · rename_i x hx
    intro p e R s m args below meth c H locs lc Z C hH hL hSt hS hR
    obtain ⟨a1, a2, a3⟩ := hL.2.2 _ _ hx
    exact lv_aload_n C.1 C.2.1 hd rfl a1 (hK _ _ _ _ _ _ _ h p e R s m args below meth c H locs lc Z C hH hL (so_push a2 hSt) hS hR)
  · exact h.elim
theorem r_istore_n {k : Fin 4} (hK : KOK Γ μ Q K) (hd : decode (mcode μ) pc = .ok (.istore_n k, 1)) (hk : k.val < mxl μ) (h : popI st (fun x st => K (pc + 1) (setL ls k.val (.inl x)) st cs sl w M)) : wp Γ μ pc ls st cs sl w M Q := by
  obtain ⟨x, st, rfl, h⟩ := popI_ex h
  intro p e R s m args below meth c H locs lc Z C hH hL hSt hS hR
  refine lv_istore_n (nL := mxl μ) C.1 C.2.1 hd rfl (so_lvR hL) hk rfl (fun lc' hl => ?_)
  exact hK _ _ _ _ _ _ _ h p e R s m args below meth c H locs lc' Z C hH (so_set (v := .inl x) hL (so_head hSt) rfl hl) (so_tail hSt) hS hR
theorem r_istore {k : Nat} (hK : KOK Γ μ Q K) (hd : decode (mcode μ) pc = .ok (.istore k, 2)) (hk : k < mxl μ) (h : popI st (fun x st => K (pc + 2) (setL ls k (.inl x)) st cs sl w M)) : wp Γ μ pc ls st cs sl w M Q := by
  obtain ⟨x, st, rfl, h⟩ := popI_ex h
  intro p e R s m args below meth c H locs lc Z C hH hL hSt hS hR
  refine lv_istore (nL := mxl μ) C.1 C.2.1 hd (so_lvR hL) hk rfl (fun lc' hl => ?_)
  exact hK _ _ _ _ _ _ _ h p e R s m args below meth c H locs lc' Z C hH (so_set (v := .inl x) hL (so_head hSt) rfl hl) (so_tail hSt) hS hR
theorem r_astore_n {k : Fin 4} (hK : KOK Γ μ Q K) (hd : decode (mcode μ) pc = .ok (.astore_n k, 1)) (hk : k.val < mxl μ) (h : popA st (fun a st => K (pc + 1) (setL ls k.val (.inr (.inr (some a)))) st cs sl w M)) : wp Γ μ pc ls st cs sl w M Q := by
  obtain ⟨x, st, rfl, h⟩ := popA_ex h
  intro p e R s m args below meth c H locs lc Z C hH hL hSt hS hR
  refine lv_astore_n (nL := mxl μ) C.1 C.2.1 hd rfl (so_lvR hL) hk rfl (fun lc' hl => ?_)
  exact hK _ _ _ _ _ _ _ h p e R s m args below meth c H locs lc' Z C hH (so_set (v := VR x) hL (so_head hSt) rfl hl) (so_tail hSt) hS hR
theorem r_iconst {n : Int} (hK : KOK Γ μ Q K) (hd : decode (mcode μ) pc = .ok (.iconst n, 1)) (hn : inR n) (h : K (pc + 1) ls (.inl n :: st) cs sl w M) : wp Γ μ pc ls st cs sl w M Q := by
  intro p e R s m args below meth c H locs lc Z C hH hL hSt hS hR
  exact lv_iconst C.1 C.2.1 hd rfl (hK _ _ _ _ _ _ _ h p e R s m args below meth c H locs lc Z C hH hL (so_push (v := .inl n) hn hSt) hS hR)
theorem r_bipush {n : Int} (hK : KOK Γ μ Q K) (hd : decode (mcode μ) pc = .ok (.bipush n, 2)) (hn : inR n) (hv : (Int8.ofInt n).toInt32 = Int32.ofInt n) (h : K (pc + 2) ls (.inl n :: st) cs sl w M) : wp Γ μ pc ls st cs sl w M Q := by
  intro p e R s m args below meth c H locs lc Z C hH hL hSt hS hR
  exact lv_bipush C.1 C.2.1 hd hv (hK _ _ _ _ _ _ _ h p e R s m args below meth c H locs lc Z C hH hL (so_push (v := .inl n) hn hSt) hS hR)
theorem r_sipush {n : Int} (hK : KOK Γ μ Q K) (hd : decode (mcode μ) pc = .ok (.sipush n, 3)) (hn : inR n) (hv : (Int16.ofInt n).toInt32 = Int32.ofInt n) (h : K (pc + 3) ls (.inl n :: st) cs sl w M) : wp Γ μ pc ls st cs sl w M Q := by
  intro p e R s m args below meth c H locs lc Z C hH hL hSt hS hR
  exact lv_sipush C.1 C.2.1 hd hv (hK _ _ _ _ _ _ _ h p e R s m args below meth c H locs lc Z C hH hL (so_push (v := .inl n) hn hSt) hS hR)
theorem r_ldc {n : Int} {ix : Nat} (hK : KOK Γ μ Q K) (hd : decode (mcode μ) pc = .ok (.ldc ix, 2)) (hn : inR n) (hc : Jvm.Cond.constant (my μ).cls ix (Int32.ofInt n) ∈ gdT) (h : K (pc + 2) ls (.inl n :: st) cs sl w M) : wp Γ μ pc ls st cs sl w M Q := by
  intro p e R s m args below meth c H locs lc Z C hH hL hSt hS hR
  exact lv_ldc C.1 C.2.1 C.2.2.2.2.1 (C.2.2.2.2.2.1 _ hc) hd (hK _ _ _ _ _ _ _ h p e R s m args below meth c H locs lc Z C hH hL (so_push (v := .inl n) hn hSt) hS hR)
theorem so_l2 : ∀ n : Fin 2, Int64.ofNat n.val = Int64.ofInt (n.val : Int) := by decide +kernel
theorem r_lconst {n : Fin 2} (hK : KOK Γ μ Q K) (hd : decode (mcode μ) pc = .ok (.lconst n, 1)) (h : K (pc + 1) ls (.inr (.inl (n.val : Int)) :: st) cs sl w M) : wp Γ μ pc ls st cs sl w M Q := by
  intro p e R s m args below meth c H locs lc Z C hH hL hSt hS hR
  refine lv_lconst C.1 C.2.1 hd (v := Int64.ofInt (n.val : Int)) ?_ (hK _ _ _ _ _ _ _ h p e R s m args below meth c H locs lc Z C hH hL (so_push (v := VL (n.val : Int)) ?_ hSt) hS hR)
  · exact so_l2 n
  · show inRL _
    have := n.isLt
    omega
theorem r_iadd (hK : KOK Γ μ Q K) (hd : decode (mcode μ) pc = .ok (.iadd, 1)) (h : popII st (fun x y st => inR (x + y) ∧ K (pc + 1) ls (.inl (x + y) :: st) cs sl w M)) : wp Γ μ pc ls st cs sl w M Q := by
  obtain ⟨x, y, st, rfl, hr, h⟩ := popII_ex h
  intro p e R s m args below meth c H locs lc Z C hH hL hSt hS hR
  exact lv_iadd C.1 C.2.1 hd (by rw [← Int32.ofInt_add]; exact hK _ _ _ _ _ _ _ h p e R s m args below meth c H locs lc Z C hH hL (so_push (v := .inl _) hr (so_tail (so_tail hSt))) hS hR)
theorem r_isub (hK : KOK Γ μ Q K) (hd : decode (mcode μ) pc = .ok (.isub, 1)) (h : popII st (fun x y st => inR (x - y) ∧ K (pc + 1) ls (.inl (x - y) :: st) cs sl w M)) : wp Γ μ pc ls st cs sl w M Q := by
  obtain ⟨x, y, st, rfl, hr, h⟩ := popII_ex h
  intro p e R s m args below meth c H locs lc Z C hH hL hSt hS hR
  exact lv_isub C.1 C.2.1 hd (by rw [← Int32.ofInt_sub]; exact hK _ _ _ _ _ _ _ h p e R s m args below meth c H locs lc Z C hH hL (so_push (v := .inl _) hr (so_tail (so_tail hSt))) hS hR)
theorem r_imul (hK : KOK Γ μ Q K) (hd : decode (mcode μ) pc = .ok (.imul, 1)) (h : popII st (fun x y st => inR (x * y) ∧ K (pc + 1) ls (.inl (x * y) :: st) cs sl w M)) : wp Γ μ pc ls st cs sl w M Q := by
  obtain ⟨x, y, st, rfl, hr, h⟩ := popII_ex h
  intro p e R s m args below meth c H locs lc Z C hH hL hSt hS hR
  exact lv_imul C.1 C.2.1 hd (by rw [← Int32.ofInt_mul]; exact hK _ _ _ _ _ _ _ h p e R s m args below meth c H locs lc Z C hH hL (so_push (v := .inl _) hr (so_tail (so_tail hSt))) hS hR)
theorem r_ineg (hK : KOK Γ μ Q K) (hd : decode (mcode μ) pc = .ok (.ineg, 1)) (h : popI st (fun x st => inR (-x) ∧ K (pc + 1) ls (.inl (-x) :: st) cs sl w M)) : wp Γ μ pc ls st cs sl w M Q := by
  obtain ⟨x, st, rfl, hr, h⟩ := popI_ex h
  intro p e R s m args below meth c H locs lc Z C hH hL hSt hS hR
  have hw := hK _ _ _ _ _ _ _ h p e R s m args below meth c H locs lc Z C hH hL (so_push (v := .inl (-x)) hr (so_tail hSt)) hS hR
  have ee : Int32.ofInt (-x) = 0 - Int32.ofInt x := by rw [Int32.ofInt_neg, Int32.zero_sub]
  have hw : W p (gl Γ) e R s m args below meth c H locs cs sl Z (F0 m (pc + 1) lc (.int (0 - Int32.ofInt x) :: st.map (cV Γ))) := by rw [← ee]; exact hw
  first | exact lv_ineg C.1 C.2.1 hd hw | exact lv_ineg C.1 C.2.1 hd (by rw [← Int32.zero_sub]; exact hw)
theorem r_idiv (hK : KOK Γ μ Q K) (hd : decode (mcode μ) pc = .ok (.idiv, 1)) (h : popII st (fun x y st => (0 ≤ x ∧ 0 < y) ∧ K (pc + 1) ls (.inl (x / y) :: st) cs sl w M)) : wp Γ μ pc ls st cs sl w M Q := by
  obtain ⟨x, y, st, rfl, ⟨h0, h1⟩, h⟩ := popII_ex h
  intro p e R s m args below meth c H locs lc Z C hH hL hSt hS hR
  have hy : inR y := so_head hSt
  have hx : inR x := so_head (so_tail hSt)
  refine lv_idiv C.1 C.2.1 hd (fun q => ?_) (by rw [so_div hx hy h0 h1]; exact hK _ _ _ _ _ _ _ h p e R s m args below meth c H locs lc Z C hH hL (so_push (v := .inl _) (so_divR hx h0 h1).1 (so_tail (so_tail hSt))) hS hR)
  have := (so_eq hy so_0).mp q
  omega
theorem r_irem (hK : KOK Γ μ Q K) (hd : decode (mcode μ) pc = .ok (.irem, 1)) (h : popII st (fun x y st => (0 ≤ x ∧ 0 < y) ∧ K (pc + 1) ls (.inl (x % y) :: st) cs sl w M)) : wp Γ μ pc ls st cs sl w M Q := by
  obtain ⟨x, y, st, rfl, ⟨h0, h1⟩, h⟩ := popII_ex h
  intro p e R s m args below meth c H locs lc Z C hH hL hSt hS hR
  have hy : inR y := so_head hSt
  have hx : inR x := so_head (so_tail hSt)
  refine lv_irem C.1 C.2.1 hd (fun q => ?_) (by rw [so_rem hx hy h0 h1]; exact hK _ _ _ _ _ _ _ h p e R s m args below meth c H locs lc Z C hH hL (so_push (v := .inl _) (so_remR hx h0 h1) (so_tail (so_tail hSt))) hS hR)
  have := (so_eq hy so_0).mp q
  omega
theorem r_ishl (hK : KOK Γ μ Q K) (hd : decode (mcode μ) pc = .ok (.ishl, 1)) (h : popII st (fun x y st => (0 ≤ x ∧ 0 ≤ y ∧ y < 32 ∧ inR (x * 2 ^ y.toNat)) ∧ K (pc + 1) ls (.inl (x * 2 ^ y.toNat) :: st) cs sl w M)) : wp Γ μ pc ls st cs sl w M Q := by
  obtain ⟨x, y, st, rfl, ⟨h0, h1, h2, h3⟩, h⟩ := popII_ex h
  intro p e R s m args below meth c H locs lc Z C hH hL hSt hS hR
  exact lv_ishl C.1 C.2.1 hd (by rw [so_shl h0 h1 h2 h3]; exact hK _ _ _ _ _ _ _ h p e R s m args below meth c H locs lc Z C hH hL (so_push (v := .inl _) h3 (so_tail (so_tail hSt))) hS hR)
theorem r_ishr (hK : KOK Γ μ Q K) (hd : decode (mcode μ) pc = .ok (.ishr, 1)) (h : popII st (fun x y st => (0 ≤ x ∧ 0 ≤ y ∧ y < 32) ∧ K (pc + 1) ls (.inl (x / 2 ^ y.toNat) :: st) cs sl w M)) : wp Γ μ pc ls st cs sl w M Q := by
  obtain ⟨x, y, st, rfl, ⟨h0, h1, h2⟩, h⟩ := popII_ex h
  intro p e R s m args below meth c H locs lc Z C hH hL hSt hS hR
  have hx : inR x := so_head (so_tail hSt)
  have hp : (0 : Int) < 2 ^ y.toNat := Int.pow_pos (by decide)
  exact lv_ishr C.1 C.2.1 hd (by rw [so_shr hx h0 h1 h2]; exact hK _ _ _ _ _ _ _ h p e R s m args below meth c H locs lc Z C hH hL (so_push (v := .inl _) (so_divR hx h0 hp).1 (so_tail (so_tail hSt))) hS hR)
theorem r_iand (hK : KOK Γ μ Q K) (hd : decode (mcode μ) pc = .ok (.iand, 1)) (h : popII st (fun x y st => K (pc + 1) ls (.inl (andI x y) :: st) cs sl w M)) : wp Γ μ pc ls st cs sl w M Q := by
  obtain ⟨x, y, st, rfl, h⟩ := popII_ex h
  intro p e R s m args below meth c H locs lc Z C hH hL hSt hS hR
  exact lv_iand C.1 C.2.1 hd (by rw [so_and]; exact hK _ _ _ _ _ _ _ h p e R s m args below meth c H locs lc Z C hH hL (so_push (v := .inl _) (so_andR x y) (so_tail (so_tail hSt))) hS hR)
theorem r_ior (hK : KOK Γ μ Q K) (hd : decode (mcode μ) pc = .ok (.ior, 1)) (h : popII st (fun x y st => K (pc + 1) ls (.inl (orI x y) :: st) cs sl w M)) : wp Γ μ pc ls st cs sl w M Q := by
  obtain ⟨x, y, st, rfl, h⟩ := popII_ex h
  intro p e R s m args below meth c H locs lc Z C hH hL hSt hS hR
  exact lv_ior C.1 C.2.1 hd (by rw [so_or]; exact hK _ _ _ _ _ _ _ h p e R s m args below meth c H locs lc Z C hH hL (so_push (v := .inl _) (so_orR x y) (so_tail (so_tail hSt))) hS hR)
theorem r_i2l (hK : KOK Γ μ Q K) (hd : decode (mcode μ) pc = .ok (.i2l, 1)) (h : popI st (fun x st => K (pc + 1) ls (.inr (.inl x) :: st) cs sl w M)) : wp Γ μ pc ls st cs sl w M Q := by
  obtain ⟨x, st, rfl, h⟩ := popI_ex h
  intro p e R s m args below meth c H locs lc Z C hH hL hSt hS hR
  have hx : inR x := so_head hSt
  exact lv_i2l C.1 C.2.1 hd (so_i2l hx) (hK _ _ _ _ _ _ _ h p e R s m args below meth c H locs lc Z C hH hL (so_push (v := VL x) (show inRL x by omega) (so_tail hSt)) hS hR)
theorem r_lmul (hK : KOK Γ μ Q K) (hd : decode (mcode μ) pc = .ok (.lmul, 1)) (h : popLL st (fun x y st => inRL (x * y) ∧ K (pc + 1) ls (.inr (.inl (x * y)) :: st) cs sl w M)) : wp Γ μ pc ls st cs sl w M Q := by
  obtain ⟨x, y, st, rfl, hr, h⟩ := popLL_ex h
  intro p e R s m args below meth c H locs lc Z C hH hL hSt hS hR
  exact lv_lmul C.1 C.2.1 hd (by rw [← Int64.ofInt_mul]; exact hK _ _ _ _ _ _ _ h p e R s m args below meth c H locs lc Z C hH hL (so_push (v := VL _) hr (so_tail (so_tail hSt))) hS hR)
theorem r_lcmp (hK : KOK Γ μ Q K) (hd : decode (mcode μ) pc = .ok (.lcmp, 1)) (h : popLL st (fun x y st => K (pc + 1) ls (.inl (if y < x then 1 else if x = y then 0 else -1) :: st) cs sl w M)) : wp Γ μ pc ls st cs sl w M Q := by
  obtain ⟨x, y, st, rfl, h⟩ := popLL_ex h
  intro p e R s m args below meth c H locs lc Z C hH hL hSt hS hR
  have hy : inRL y := so_head hSt
  have hx : inRL x := so_head (so_tail hSt)
  exact W.lcmp C.1 C.2.1 hd (by rw [so_cmp hx hy]; exact hK _ _ _ _ _ _ _ h p e R s m args below meth c H locs lc Z C hH hL (so_push (v := .inl _) (show inR _ by split <;> (try split) <;> omega) (so_tail (so_tail hSt))) hS hR)
theorem r_dup (hK : KOK Γ μ Q K) (hd : decode (mcode μ) pc = .ok (.dup, 1)) (h : popV st (fun v st => K (pc + 1) ls (v :: v :: st) cs sl w M)) : wp Γ μ pc ls st cs sl w M Q := by
  obtain ⟨v, st, rfl, hc, h⟩ := popV_ex h
  intro p e R s m args below meth c H locs lc Z C hH hL hSt hS hR
  exact lv_dup C.1 C.2.1 hd (hc Γ) (hK _ _ _ _ _ _ _ h p e R s m args below meth c H locs lc Z C hH hL (so_push (so_head hSt) hSt) hS hR)
theorem r_dup2 (hK : KOK Γ μ Q K) (hd : decode (mcode μ) pc = .ok (.dup2, 1)) (h : popV st (fun v st => popV st (fun u st => K (pc + 1) ls (v :: u :: v :: u :: st) cs sl w M))) : wp Γ μ pc ls st cs sl w M Q := by
  obtain ⟨v, st, rfl, hc, h⟩ := popV_ex h
  obtain ⟨u, st, rfl, hc2, h⟩ := popV_ex h
  intro p e R s m args below meth c H locs lc Z C hH hL hSt hS hR
  exact lv_dup2_11 C.1 C.2.1 hd (hc Γ) (hc2 Γ) (hK _ _ _ _ _ _ _ h p e R s m args below meth c H locs lc Z C hH hL (so_push (so_head hSt) (so_push (so_head (so_tail hSt)) hSt)) hS hR)
theorem r_pop (hK : KOK Γ μ Q K) (hd : decode (mcode μ) pc = .ok (.pop, 1)) (h : popV st (fun _ st => K (pc + 1) ls st cs sl w M)) : wp Γ μ pc ls st cs sl w M Q := by
  obtain ⟨v, st, rfl, hc, h⟩ := popV_ex h
  intro p e R s m args below meth c H locs lc Z C hH hL hSt hS hR
  exact lv_pop C.1 C.2.1 hd (hc Γ) (hK _ _ _ _ _ _ _ h p e R s m args below meth c H locs lc Z C hH hL (so_tail hSt) hS hR)
theorem r_iinc {k : Nat} {n : Int} (hK : KOK Γ μ Q K) (hd : decode (mcode μ) pc = .ok (.iinc k n, 3)) (hk : k < mxl μ) (h : match getL ls k with
    | some (.inl x) => inR (x + n) ∧ K (pc + 3) (setL ls k (.inl (x + n))) st cs sl w M
    | _ => False) : wp Γ μ pc ls st cs sl w M Q := by
  split at h
  · rename_i x hx
    intro p e R s m args below meth c H locs lc Z C hH hL hSt hS hR
    obtain ⟨a1, a2, a3⟩ := hL.2.2 _ _ hx
    have hm : (k, Value.int (Int32.ofInt x)) ∈ lvR Γ (mxl μ) ls := List.mem_filterMap.mpr ⟨k, List.mem_range.mpr hk, by rw [hx]; rfl⟩
    obtain ⟨j, hj⟩ := List.getElem?_of_mem hm
    refine lv_iinc (nL := mxl μ) (v := Int32.ofInt (x + n)) C.1 C.2.1 hd (so_lvR hL) hj (by rw [← Int32.ofInt_add]) hk rfl (fun lc' hl => ?_)
    exact hK _ _ _ _ _ _ _ h.2 p e R s m args below meth c H locs lc' Z C hH (so_set (v := .inl (x + n)) hL h.1 rfl hl) hSt hS hR
  · exact h.elim
theorem r_goto {off : Int} {t : Nat} (hK : KOK Γ μ Q K) (hd : decode (mcode μ) pc = .ok (.goto off, 3)) (ht : (pc : Int) + off = (t : Nat)) (h : K t ls st cs sl w M) : wp Γ μ pc ls st cs sl w M Q := by
  intro p e R s m args below meth c H locs lc Z C hH hL hSt hS hR
  exact lv_goto C.1 C.2.1 hd ht (hK _ _ _ _ _ _ _ h p e R s m args below meth c H locs lc Z C hH hL hSt hS hR)
theorem r_icmp {q : Jvm.ClassFile.Cond} {off : Int} {t : Nat} (hK : KOK Γ μ Q K) (hd : decode (mcode μ) pc = .ok (.if_icmp q off, 3)) (ht : (pc : Int) + off = (t : Nat)) (h : popII st (fun x y st => brk q x y (K t ls st cs sl w M) (K (pc + 3) ls st cs sl w M))) : wp Γ μ pc ls st cs sl w M Q := by
  obtain ⟨x, y, st, rfl, h⟩ := popII_ex h
  intro p e R s m args below meth c H locs lc Z C hH hL hSt hS hR
  have hy : inR y := so_head hSt
  have hx : inR x := so_head (so_tail hSt)
  have go : ∀ pc', K pc' ls st cs sl w M → W p (gl Γ) e R s m args below meth c H locs cs sl Z (F0 m pc' lc (st.map (cV Γ))) := fun pc' h => hK _ _ _ _ _ _ _ h p e R s m args below meth c H locs lc Z C hH hL (so_tail (so_tail hSt)) hS hR
  cases q with
  | eq => exact lv_icmp_eq C.1 C.2.1 hd ht (fun a => go _ (h.1 ((so_eq hx hy).mp a))) (fun a => go _ (h.2 (fun b => a ((so_eq hx hy).mpr b))))
  | ne => exact lv_icmp_ne C.1 C.2.1 hd ht (fun a => go _ (h.1 (fun b => a ((so_eq hx hy).mpr b)))) (fun a => go _ (h.2 ((so_eq hx hy).mp a)))
  | lt => exact lv_icmp_lt C.1 C.2.1 hd ht (fun a => go _ (h.1 ((so_lt hx hy).mp a))) (fun a => go _ (h.2 (Int.not_lt.mp (fun b => a ((so_lt hx hy).mpr b)))))
  | ge => exact lv_icmp_ge C.1 C.2.1 hd ht (fun a => go _ (h.1 ((so_le hy hx).mp a))) (fun a => go _ (h.2 (Int.not_le.mp (fun b => a ((so_le hy hx).mpr b)))))
  | gt => exact lv_icmp_gt C.1 C.2.1 hd ht (fun a => go _ (h.1 ((so_lt hy hx).mp a))) (fun a => go _ (h.2 (Int.not_lt.mp (fun b => a ((so_lt hy hx).mpr b)))))
  | le => exact lv_icmp_le C.1 C.2.1 hd ht (fun a => go _ (h.1 ((so_le hx hy).mp a))) (fun a => go _ (h.2 (Int.not_le.mp (fun b => a ((so_le hx hy).mpr b)))))
theorem r_if {q : Jvm.ClassFile.Cond} {off : Int} {t : Nat} (hK : KOK Γ μ Q K) (hd : decode (mcode μ) pc = .ok (.ifCond q off, 3)) (ht : (pc : Int) + off = (t : Nat)) (h : popI st (fun x st => brk q x 0 (K t ls st cs sl w M) (K (pc + 3) ls st cs sl w M))) : wp Γ μ pc ls st cs sl w M Q := by
  obtain ⟨x, st, rfl, h⟩ := popI_ex h
  intro p e R s m args below meth c H locs lc Z C hH hL hSt hS hR
  have hy : inR 0 := so_0
  have hx : inR x := so_head hSt
  have go : ∀ pc', K pc' ls st cs sl w M → W p (gl Γ) e R s m args below meth c H locs cs sl Z (F0 m pc' lc (st.map (cV Γ))) := fun pc' h => hK _ _ _ _ _ _ _ h p e R s m args below meth c H locs lc Z C hH hL (so_tail hSt) hS hR
  cases q with
  | eq => exact lv_if_eq C.1 C.2.1 hd ht (fun a => go _ (h.1 ((so_eq hx hy).mp a))) (fun a => go _ (h.2 (fun b => a ((so_eq hx hy).mpr b))))
  | ne => exact lv_if_ne C.1 C.2.1 hd ht (fun a => go _ (h.1 (fun b => a ((so_eq hx hy).mpr b)))) (fun a => go _ (h.2 ((so_eq hx hy).mp a)))
  | lt => exact lv_if_lt C.1 C.2.1 hd ht (fun a => go _ (h.1 ((so_lt hx hy).mp a))) (fun a => go _ (h.2 (Int.not_lt.mp (fun b => a ((so_lt hx hy).mpr b)))))
  | ge => exact lv_if_ge C.1 C.2.1 hd ht (fun a => go _ (h.1 ((so_le hy hx).mp a))) (fun a => go _ (h.2 (Int.not_le.mp (fun b => a ((so_le hy hx).mpr b)))))
  | gt => exact lv_if_gt C.1 C.2.1 hd ht (fun a => go _ (h.1 ((so_lt hy hx).mp a))) (fun a => go _ (h.2 (Int.not_lt.mp (fun b => a ((so_lt hy hx).mpr b)))))
  | le => exact lv_if_le C.1 C.2.1 hd ht (fun a => go _ (h.1 ((so_le hx hy).mp a))) (fun a => go _ (h.2 (Int.not_le.mp (fun b => a ((so_le hx hy).mpr b)))))
theorem swT_go {x : Int} {K : Nat → Prop} : ∀ {v : Int} {ts : List Nat}, swT x K v ts → ∀ (j t : Nat), ts[j]? = some t → x = v + (j : Int) → K t
  | _, [], _, j, t, hj, _ => by cases hj
  | v, u :: ts, h, 0, t, hj, hx => by
    cases hj
    exact h.1 (by omega)
  | v, u :: ts, h, j + 1, t, hj, hx => swT_go h.2 j t hj (by omega)
theorem r_table {d lo hi : Int} {os : Array Int} {len : Nat} {aux : List Nat} (hK : KOK Γ μ Q K) (hd : decode (mcode μ) pc = .ok (.tableswitch d lo hi os, len)) (h1 : (pc : Int) + d = (aux.getD 0 0 : Nat)) (h2 : os.toList.map (fun o => (pc : Int) + o) = (aux.drop 1).map Int.ofNat) (h3 : lo + os.size = hi + 1)
    (h : popI st (fun x st => ((x < lo ∨ hi < x) → K (aux.getD 0 0) ls st cs sl w M) ∧ swT x (fun t => K t ls st cs sl w M) lo (aux.drop 1))) : wp Γ μ pc ls st cs sl w M Q := by
  obtain ⟨x, st, rfl, h⟩ := popI_ex h
  intro p e R s m args below meth c H locs lc Z C hH hL hSt hS hR
  have hx : inR x := so_head hSt
  have go : ∀ pc', K pc' ls st cs sl w M → W p (gl Γ) e R s m args below meth c H locs cs sl Z (F0 m pc' lc (st.map (cV Γ))) := fun pc' h => hK _ _ _ _ _ _ _ h p e R s m args below meth c H locs lc Z C hH hL (so_tail hSt) hS hR
  by_cases ho : x < lo ∨ hi < x
  · exact lv_tableOut C.1 C.2.1 hd (by rw [so_ofI hx]; exact ho) h1 (go _ (h.1 ho))
  · have hj : (x - lo).toNat < os.toList.length := by rw [Array.length_toList]; omega
    have e1 : (os.toList.map (fun o => (pc : Int) + o))[(x - lo).toNat]? = some ((pc : Int) + os.toList[(x - lo).toNat]) := by rw [List.getElem?_map, List.getElem?_eq_getElem hj]; rfl
    rw [h2, List.getElem?_map] at e1
    cases ht : (aux.drop 1)[(x - lo).toNat]? with
    | none => rw [ht] at e1; cases e1
    | some t =>
      rw [ht] at e1
      have e2 : (pc : Int) + os.toList[(x - lo).toNat] = (t : Int) := (Option.some.inj e1).symm
      exact lv_tableIn C.1 C.2.1 hd (by rw [so_ofI hx]; omega) (by rw [so_ofI hx]; omega) (by rw [so_ofI hx, ← Array.getElem?_toList]; exact List.getElem?_eq_getElem hj) e2 (go _ (swT_go h.2 _ t ht (by omega)))
theorem swL_go {x : Int} {K : Nat → Prop} {d : Nat} {dflt : Int} {pc : Nat} (hd : (pc : Int) + dflt = (d : Int)) : ∀ {ps : List (Int × Int)} {ts : List Nat}, swL x K d ps ts → ps.map (fun o => (pc : Int) + o.2) = ts.map Int.ofNat → ∃ t : Nat, (pc : Int) + Op.lookupswitch.offset ps dflt x = (t : Int) ∧ K t
  | [], _, h, _ => ⟨d, hd, h⟩
  | _ :: _, [], h, _ => h.elim
  | (a, o) :: ps, t :: ts, h, e => by
    rw [List.map_cons, List.map_cons] at e
    injection e with e1 e2
    rw [Op.lookupswitch.offset_cons]
    by_cases hq : a = x
    · rw [if_pos (by first | exact hq | exact hq.symm)]
      exact ⟨t, e1, h.1 hq.symm⟩
    · rw [if_neg (by first | exact hq | exact fun z => hq z.symm)]
      exact swL_go hd (h.2 (fun z => hq z.symm)) e2
theorem r_lookup {d : Int} {ps : Array (Int × Int)} {len : Nat} {aux : List Nat} (hK : KOK Γ μ Q K) (hd : decode (mcode μ) pc = .ok (.lookupswitch d ps, len)) (h1 : (pc : Int) + d = (aux.getD 0 0 : Nat)) (h2 : ps.toList.map (fun o => (pc : Int) + o.2) = (aux.drop 1).map Int.ofNat) (h3 : (ps.toList.zip (ps.toList.drop 1)).all (fun (a, next) => a.1 < next.1) = true)
    (h : popI st (fun x st => swL x (fun t => K t ls st cs sl w M) (aux.getD 0 0) ps.toList (aux.drop 1))) : wp Γ μ pc ls st cs sl w M Q := by
  obtain ⟨x, st, rfl, h⟩ := popI_ex h
  intro p e R s m args below meth c H locs lc Z C hH hL hSt hS hR
  have hx : inR x := so_head hSt
  obtain ⟨t, e1, h⟩ := swL_go h1 h h2
  exact lv_lookup C.1 C.2.1 hd h3 (by rw [so_ofI hx]) e1 (hK _ _ _ _ _ _ _ h p e R s m args below meth c H locs lc Z C hH hL (so_tail hSt) hS hR)
end Rules
