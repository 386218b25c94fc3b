/-! ===== constructors of Plan, Fewest, the class, the model (by gen70.py) ===== -/
section Init
variable {Γ : GG} {L : Nat} {M : MM} {Q : QT}
theorem c_pInit (hG : GOK Γ) (h : ∀ M' : MM, (∀ a, a < 156 → M' a = M a) → Q none (CU L 169 7 156 2) M') : wp Γ mX5_init 0 [some (VR 156)] [] 0 0 (nwW (CU L 155 7 149 3) 9 0) (zrM M 156) Q := by
  rw [show nwW (CU L 155 7 149 3) 9 0 = CU L 156 7 156 0 from CU_obj (by decide) rfl rfl (rge 3 (fun k => rfl))]
  refine vc_go hG 60 (B := bX5_init) rfl ?_
  refine c_gInit hG (n := 156) (WG_157 L) (by decide) (by decide) (fun M1 g1 f1 => ?_)
  refine And.intro rfl ?_
  rw [show rfW (CU L (156 + 10) 7 156 0) 156 0 (some ((CU L 156 7 156 0).2.2.2 + 1)) = CU L 166 7 156 1 from CU_setd (by decide) (by decide) (Nat.le_refl _) rfl (fun k a b => by omega)]
  refine c_nInit hG (n := 166) (WN_167 L) (by decide) (by decide) (fun M2 f2 => ?_)
  refine And.intro rfl ?_
  have q := h M2 (fun a ha => by rw [f2 a (by omega), f1 a (by omega), zr_ne (by omega)])
  rw [← show rfW (CU L 169 7 156 1) 156 1 (some 167) = CU L 169 7 156 2 from CU_setd (by decide) (by decide) (Nat.le_refl _) rfl (fun k a b => by omega)] at q
  exact q
theorem c_fInit (hG : GOK Γ) (h : ∀ M' : MM, GrR M' 171 E6 → (∀ a, a < 170 → M' a = M a) → Q none (CU L 186 8 170 3) M') : wp Γ mX0_init 0 [some (VR 170)] [] 0 0 (nwW (CU L 169 8 156 2) 4 0) (zrM M 170) Q := by
  rw [show nwW (CU L 169 8 156 2) 4 0 = CU L 170 8 170 0 from CU_obj (by decide) rfl rfl (rge 2 (fun k => rfl))]
  refine vc_go hG 60 (B := bX0_init) rfl ?_
  refine c_gInit hG (n := 170) (WG_171 L) (by decide) (by decide) (fun M1 g1 f1 => ?_)
  refine And.intro rfl ?_
  rw [show rfW (CU L (170 + 10) 8 170 0) 170 0 (some ((CU L 170 8 170 0).2.2.2 + 1)) = CU L 180 8 170 1 from CU_setd (by decide) (by decide) (Nat.le_refl _) rfl (fun k a b => by omega)]
  refine c_nInit hG (n := 180) (WN_181 L) (by decide) (by decide) (fun M2 f2 => ?_)
  refine And.intro rfl ?_
  rw [show rfW (CU L (180 + 3) 8 170 1) 170 1 (some ((CU L 180 8 170 1).2.2.2 + 1)) = CU L 183 8 170 2 from CU_setd (by decide) (by decide) (Nat.le_refl _) rfl (fun k a b => by omega)]
  refine c_nInit hG (n := 183) (WN_184 L) (by decide) (by decide) (fun M3 f3 => ?_)
  refine And.intro rfl ?_
  have q := h M3 (g1.keep (fun a a1 a2 => by rw [f3 a (by omega), f2 a (by omega)])) (fun a ha => by rw [f3 a (by omega), f2 a (by omega), f1 a (by omega), zr_ne (by omega)])
  rw [← show rfW (CU L 186 8 170 2) 170 2 (some 184) = CU L 186 8 170 3 from CU_setd (by decide) (by decide) (Nat.le_refl _) rfl (fun k a b => by omega)] at q
  exact q
theorem CU_0 (L : Nat) : nwW (wd0 L) 12 0 = CU L 1 0 0 0 := by
  refine Wd_ext (fun a => ?_) (fun a => ?_) (fun a k => ?_) rfl
  · match a with
    | 0 => rfl
    | 1 => rfl
    | a + 2 =>
      show (if a + 2 = 0 + 1 then 12 else if a + 2 = 0 then 14 else 15) = (if a + 2 ≤ 1 then (W0 L).1 (a + 2) else 15)
      rw [if_neg (by omega), if_neg (by omega), if_neg (by omega)]
  · match a with
    | 0 => rfl
    | 1 => rfl
    | a + 2 =>
      show (if a + 2 = 0 + 1 then 0 else if a + 2 = 0 then L else 0) = (if a + 2 ≤ 1 then (W0 L).2.1 (a + 2) else 0)
      rw [if_neg (by omega), if_neg (by omega), if_neg (by omega)]
  · show (if a = 0 + 1 then (fun _ => none) else (fun _ => none)) k = cRf L 1 0 0 0 a k
    have e : (if a = 0 + 1 then (fun _ => none) else (fun _ => none) : Nat → Option Nat) k = none := by split <;> rfl
    rw [e]
    unfold cRf
    match a with
    | 0 => rfl
    | 1 => rfl
    | a + 2 => rw [if_pos (by omega)]
theorem c_xInit (hG : GOK Γ) (h : ∀ M' : MM, GrR M' 2 E6 → GrR M' 12 E6 → GrR M' 171 E6 → M' 22 1 = 0 → M' 24 1 = 9 → M' 24 2 = 0 → (∀ k, M' 128 k = 0) → M' 149 3 = 0 → M' 1 9 = 1 → M' 1 10 = 1 → M' 0 = M 0 → Q none (CU L 186 9 170 3) M') : wp Γ mX9_init 0 [some (VR 1)] [] 0 0 (nwW (wd0 L) 12 0) (zrM M 1) Q := by
  rw [CU_0]
  refine vc_go hG 80 (B := bX9_init) rfl ?_
  refine c_gInit hG (n := 1) (WG_2 L) (by decide) (by decide) (fun M1 g1 f1 => ?_)
  refine And.intro rfl ?_
  rw [show rfW (CU L (1 + 10) 0 0 0) 1 0 (some ((CU L 1 0 0 0).2.2.2 + 1)) = CU L 11 1 0 0 from CU_set1 (by decide) (by decide) rfl]
  refine c_gInit hG (n := 11) (WG_12 L) (by decide) (by decide) (fun M2 g2 f2 => ?_)
  refine And.intro rfl ?_
  rw [show rfW (CU L (11 + 10) 1 0 0) 1 1 (some ((CU L 11 1 0 0).2.2.2 + 1)) = CU L 21 2 0 0 from CU_set1 (by decide) (by decide) rfl]
  refine c_tInit hG (fun M3 g3 f3 => ?_)
  refine And.intro rfl ?_
  rw [show rfW (CU L 23 2 22 1) 1 2 (some ((CU L 21 2 0 0).2.2.2 + 1)) = CU L 23 3 22 1 from CU_set1 (by decide) (by decide) rfl]
  refine c_hInit hG (fun M4 g4 g4b f4 => ?_)
  refine And.intro rfl ?_
  rw [show rfW (CU L 125 3 25 10) 1 3 (some ((CU L 23 3 22 1).2.2.2 + 1)) = CU L 125 4 25 10 from CU_set1 (by decide) (by decide) rfl]
  refine c_iInit hG (fun M5 g5 f5 => ?_)
  refine And.intro rfl ?_
  rw [show rfW (CU L 148 4 127 2) 1 4 (some ((CU L 125 4 25 10).2.2.2 + 1)) = CU L 148 5 127 2 from CU_set1 (by decide) (by decide) rfl]
  refine c_sInit hG (fun M6 g6 f6 => ?_)
  refine And.intro rfl ?_
  rw [show rfW (CU L 152 5 149 3) 1 5 (some ((CU L 148 5 127 2).2.2.2 + 1)) = CU L 152 6 149 3 from CU_set1 (by decide) (by decide) rfl]
  refine c_nInit hG (n := 152) (WN_153 L) (by decide) (by decide) (fun M7 f7 => ?_)
  refine And.intro rfl ?_
  rw [show rfW (CU L (152 + 3) 6 149 3) 1 6 (some ((CU L 152 6 149 3).2.2.2 + 1)) = CU L 155 7 149 3 from CU_set1 (by decide) (by decide) rfl]
  refine c_pInit hG (fun M8  f8 => ?_)
  refine And.intro rfl ?_
  rw [show rfW (CU L 169 7 156 2) 1 7 (some ((CU L 155 7 149 3).2.2.2 + 1)) = CU L 169 8 156 2 from CU_set1 (by decide) (by decide) rfl]
  refine c_fInit hG (fun M9 g9 f9 => ?_)
  refine And.intro rfl ?_
  rw [show rfW (CU L 186 8 170 3) 1 8 (some ((CU L 169 8 156 2).2.2.2 + 1)) = CU L 186 9 170 3 from CU_set1 (by decide) (by decide) rfl]
  refine And.intro rfl (And.intro (Or.inr rfl) ?_)
  refine And.intro rfl (And.intro (Or.inr rfl) ?_)
  have u : ∀ a, a ≠ 1 → upM (upM M9 1 9 1) 1 10 1 a = M9 a := fun a ha => by rw [upM_ne ha, upM_ne ha]
  have k1 : ∀ a, a < 12 → M9 a = M1 a := fun a ha => by rw [f9 a (by omega), f8 a (by omega), f7 a (by omega), f6 a (by omega), f5 a (by omega), f4 a (by omega), f3 a (by omega), f2 a (by omega)]
  have k2 : ∀ a, a < 22 → M9 a = M2 a := fun a ha => by rw [f9 a (by omega), f8 a (by omega), f7 a (by omega), f6 a (by omega), f5 a (by omega), f4 a (by omega), f3 a (by omega)]
  have k3 : ∀ a, a < 24 → M9 a = M3 a := fun a ha => by rw [f9 a (by omega), f8 a (by omega), f7 a (by omega), f6 a (by omega), f5 a (by omega), f4 a (by omega)]
  have k4 : ∀ a, a < 126 → M9 a = M4 a := fun a ha => by rw [f9 a (by omega), f8 a (by omega), f7 a (by omega), f6 a (by omega), f5 a (by omega)]
  have k5 : ∀ a, a < 149 → M9 a = M5 a := fun a ha => by rw [f9 a (by omega), f8 a (by omega), f7 a (by omega), f6 a (by omega)]
  have k6 : ∀ a, a < 153 → M9 a = M6 a := fun a ha => by rw [f9 a (by omega), f8 a (by omega), f7 a (by omega)]
  refine h _ (g1.keep (fun a a1 a2 => by rw [u a (by omega), k1 a (by omega)])) (g2.keep (fun a a1 a2 => by rw [u a (by omega), k2 a (by omega)])) (g9.keep (fun a a1 a2 => u a (by omega))) ?_ ?_ ?_ (fun k => ?_) ?_ ?_ ?_ ?_
  · rw [u 22 (by decide), k3 22 (by decide)]; exact g3
  · rw [u 24 (by decide), k4 24 (by decide)]; exact g4
  · rw [u 24 (by decide), k4 24 (by decide)]; exact g4b
  · rw [u 128 (by decide), k5 128 (by decide)]; exact g5 k
  · rw [u 149 (by decide), k6 149 (by decide)]; exact g6
  · rw [upM_k (by decide), upM_eq]
  · rw [upM_eq]
  · rw [u 0 (by decide), k1 0 (by decide), f1 0 (by decide), zr_ne (by decide)]
theorem W0_top (L a : Nat) (h : 202 < a) : (W0 L).1 a = 15 ∧ (W0 L).2.1 a = 0 ∧ ∀ k, (W0 L).2.2.1 a k = none := by
  by_cases c : a < 208
  · have d : a = 203 ∨ a = 204 ∨ a = 205 ∨ a = 206 ∨ a = 207 := by omega
    rcases d with d | d | d | d | d <;> subst d <;> exact ⟨rfl, rfl, fun k => rfl⟩
  · have e : a / 16 = 13 + (a / 16 - 13) := by omega
    have e1 : (W0 L).1 a = (kdT.getD (13 + (a / 16 - 13)) []).getD (a % 16) 15 := by rw [← e]; rfl
    have e2 : (W0 L).2.1 a = bif Nat.beq a 0 then L else (lnT.getD (13 + (a / 16 - 13)) []).getD (a % 16) 0 := by rw [← e]; rfl
    have e3 : ∀ k, (W0 L).2.2.1 a k = ((rfT.getD (13 + (a / 16 - 13)) []).getD (a % 16) []).getD k none := fun k => by rw [← e]; rfl
    have b : Nat.beq a 0 = false := by
      cases a with
      | zero => omega
      | succ a => rfl
    rw [e1, e2, b]
    generalize a / 16 - 13 = x at *
    rw [Nat.add_comm 13 x] at *
    exact ⟨rfl, rfl, fun k => by rw [e3]; rfl⟩
theorem CU_end (L : Nat) : CU L 202 9 187 26 = W0 L := by
  refine Wd_ext (fun a => ?_) (fun a => ?_) (fun a k => ?_) rfl
  · show (if a ≤ 202 then (W0 L).1 a else 15) = (W0 L).1 a
    by_cases c : a ≤ 202
    · rw [if_pos c]
    · rw [if_neg c, (W0_top L a (by omega)).1]
  · show (if a ≤ 202 then (W0 L).2.1 a else 0) = (W0 L).2.1 a
    by_cases c : a ≤ 202
    · rw [if_pos c]
    · rw [if_neg c, (W0_top L a (by omega)).2.1]
  · show cRf L 202 9 187 26 a k = _
    unfold cRf
    by_cases c : 202 < a
    · rw [if_pos c, (W0_top L a c).2.2 k]
    · rw [if_neg c]
      by_cases c1 : a = 1 ∧ 9 ≤ k
      · rw [if_pos c1, c1.1]
        exact (rge (f := fun k => (W0 L).2.2.1 1 k) 9 (fun k => rfl) k c1.2).symm
      · rw [if_neg c1]
        by_cases c2 : a = 187 ∧ 26 ≤ k
        · rw [if_pos c2, c2.1]
          exact (rge (f := fun k => (W0 L).2.2.1 187 k) 26 (fun k => rfl) k c2.2).symm
        · rw [if_neg c2]
theorem c_mInit (hG : GOK Γ) {T : Nat → Nat} {H I : Nat → GT} {m r : Nat → Nat} (h : ∀ M' : MM, MR M' (E6, (0, T), (0, H), (fun _ => 0, I), (0, m, r)) → OB M' → (∀ a, a < 187 → M' a = M a) → Q none (W0 L) M') : wp Γ mX10_init 0 [some (VR 187)] [] 0 0 (nwW (CU L 186 9 170 3) 13 0) (zrM M 187) Q := by
  rw [show nwW (CU L 186 9 170 3) 13 0 = CU L 187 9 187 0 from CU_obj (by decide) rfl rfl (rge 3 (fun k => rfl))]
  refine vc_go hG 100 (B := bX10_init) rfl ?_
  refine And.intro ⟨by decide, by decide⟩ ?_
  rw [show nwW (CU L 187 9 187 0) (akd ArrayType.int) (Int.toNat 80) = CU L 188 9 187 0 from CU_arr (by decide) (by decide) rfl rfl (fun k => rfl)]
  refine And.intro rfl ?_
  rw [show rfW (CU L 188 9 187 0) 187 1 (some ((CU L 187 9 187 0).2.2.2 + 1)) = CU L 188 9 187 2 from CU_setd (by decide) (by decide) (by decide) rfl (fun k a b => by
    have e : k = 0 := by omega
    subst e; rfl)]
  refine And.intro ⟨by decide, by decide⟩ ?_
  rw [show nwW (CU L 188 9 187 2) (akd ArrayType.int) (Int.toNat 57) = CU L 189 9 187 2 from CU_arr (by decide) (by decide) rfl rfl (fun k => rfl)]
  refine And.intro rfl ?_
  rw [show rfW (CU L 189 9 187 2) 187 8 (some ((CU L 188 9 187 2).2.2.2 + 1)) = CU L 189 9 187 9 from CU_setd (by decide) (by decide) (by decide) rfl (fun k a b => by
    have e : k = 2 ∨ k = 3 ∨ k = 4 ∨ k = 5 ∨ k = 6 ∨ k = 7 := by omega
    rcases e with e | e | e | e | e | e <;> subst e <;> rfl)]
  refine And.intro ⟨by decide, by decide⟩ ?_
  rw [show nwW (CU L 189 9 187 9) (akd ArrayType.int) (Int.toNat 57) = CU L 190 9 187 9 from CU_arr (by decide) (by decide) rfl rfl (fun k => rfl)]
  refine And.intro rfl ?_
  rw [show rfW (CU L 190 9 187 9) 187 9 (some ((CU L 189 9 187 9).2.2.2 + 1)) = CU L 190 9 187 10 from CU_setd (by decide) (by decide) (by decide) rfl (fun k a b => by omega)]
  refine And.intro ⟨by decide, by decide⟩ ?_
  rw [show nwW (CU L 190 9 187 10) (akd ArrayType.int) (Int.toNat 57) = CU L 191 9 187 10 from CU_arr (by decide) (by decide) rfl rfl (fun k => rfl)]
  refine And.intro rfl ?_
  rw [show rfW (CU L 191 9 187 10) 187 10 (some ((CU L 190 9 187 10).2.2.2 + 1)) = CU L 191 9 187 11 from CU_setd (by decide) (by decide) (by decide) rfl (fun k a b => by omega)]
  refine And.intro ⟨by decide, by decide⟩ ?_
  rw [show nwW (CU L 191 9 187 11) (akd ArrayType.int) (Int.toNat 114) = CU L 192 9 187 11 from CU_arr (by decide) (by decide) rfl rfl (fun k => rfl)]
  refine And.intro rfl ?_
  rw [show rfW (CU L 192 9 187 11) 187 11 (some ((CU L 191 9 187 11).2.2.2 + 1)) = CU L 192 9 187 12 from CU_setd (by decide) (by decide) (by decide) rfl (fun k a b => by omega)]
  refine And.intro ⟨by decide, by decide⟩ ?_
  rw [show nwW (CU L 192 9 187 12) (akd ArrayType.boolean) (Int.toNat 2) = CU L 193 9 187 12 from CU_arr (by decide) (by decide) rfl rfl (fun k => rfl)]
  refine And.intro rfl ?_
  rw [show rfW (CU L 193 9 187 12) 187 12 (some ((CU L 192 9 187 12).2.2.2 + 1)) = CU L 193 9 187 13 from CU_setd (by decide) (by decide) (by decide) rfl (fun k a b => by omega)]
  refine And.intro ⟨by decide, by decide⟩ ?_
  rw [show nwW (CU L 193 9 187 13) (akd ArrayType.int) (Int.toNat 570) = CU L 194 9 187 13 from CU_arr (by decide) (by decide) rfl rfl (fun k => rfl)]
  refine And.intro rfl ?_
  rw [show rfW (CU L 194 9 187 13) 187 13 (some ((CU L 193 9 187 13).2.2.2 + 1)) = CU L 194 9 187 14 from CU_setd (by decide) (by decide) (by decide) rfl (fun k a b => by omega)]
  refine And.intro ⟨by decide, by decide⟩ ?_
  rw [show nwW (CU L 194 9 187 14) (akd ArrayType.int) (Int.toNat 6) = CU L 195 9 187 14 from CU_arr (by decide) (by decide) rfl rfl (fun k => rfl)]
  refine And.intro rfl ?_
  rw [show rfW (CU L 195 9 187 14) 187 15 (some ((CU L 194 9 187 14).2.2.2 + 1)) = CU L 195 9 187 16 from CU_setd (by decide) (by decide) (by decide) rfl (fun k a b => by
    have e : k = 14 := by omega
    subst e; rfl)]
  refine And.intro ⟨by decide, by decide⟩ ?_
  rw [show nwW (CU L 195 9 187 16) (akd ArrayType.int) (Int.toNat 6) = CU L 196 9 187 16 from CU_arr (by decide) (by decide) rfl rfl (fun k => rfl)]
  refine And.intro rfl ?_
  rw [show rfW (CU L 196 9 187 16) 187 16 (some ((CU L 195 9 187 16).2.2.2 + 1)) = CU L 196 9 187 17 from CU_setd (by decide) (by decide) (by decide) rfl (fun k a b => by omega)]
  refine And.intro ⟨by decide, by decide⟩ ?_
  rw [show nwW (CU L 196 9 187 17) (akd ArrayType.int) (Int.toNat 14) = CU L 197 9 187 17 from CU_arr (by decide) (by decide) rfl rfl (fun k => rfl)]
  refine And.intro rfl ?_
  rw [show rfW (CU L 197 9 187 17) 187 18 (some ((CU L 196 9 187 17).2.2.2 + 1)) = CU L 197 9 187 19 from CU_setd (by decide) (by decide) (by decide) rfl (fun k a b => by
    have e : k = 17 := by omega
    subst e; rfl)]
  refine And.intro ⟨by decide, by decide⟩ ?_
  rw [show nwW (CU L 197 9 187 19) (akd ArrayType.int) (Int.toNat 14) = CU L 198 9 187 19 from CU_arr (by decide) (by decide) rfl rfl (fun k => rfl)]
  refine And.intro rfl ?_
  rw [show rfW (CU L 198 9 187 19) 187 19 (some ((CU L 197 9 187 19).2.2.2 + 1)) = CU L 198 9 187 20 from CU_setd (by decide) (by decide) (by decide) rfl (fun k a b => by omega)]
  refine And.intro ⟨by decide, by decide⟩ ?_
  rw [show nwW (CU L 198 9 187 20) (akd ArrayType.int) (Int.toNat 1024) = CU L 199 9 187 20 from CU_arr (by decide) (by decide) rfl rfl (fun k => rfl)]
  refine And.intro rfl ?_
  rw [show rfW (CU L 199 9 187 20) 187 21 (some ((CU L 198 9 187 20).2.2.2 + 1)) = CU L 199 9 187 22 from CU_setd (by decide) (by decide) (by decide) rfl (fun k a b => by
    have e : k = 20 := by omega
    subst e; rfl)]
  refine And.intro ⟨by decide, by decide⟩ ?_
  rw [show nwW (CU L 199 9 187 22) (akd ArrayType.int) (Int.toNat 12) = CU L 200 9 187 22 from CU_arr (by decide) (by decide) rfl rfl (fun k => rfl)]
  refine And.intro rfl ?_
  rw [show rfW (CU L 200 9 187 22) 187 22 (some ((CU L 199 9 187 22).2.2.2 + 1)) = CU L 200 9 187 23 from CU_setd (by decide) (by decide) (by decide) rfl (fun k a b => by omega)]
  refine And.intro ⟨by decide, by decide⟩ ?_
  rw [show nwW (CU L 200 9 187 23) (akd ArrayType.int) (Int.toNat 1024) = CU L 201 9 187 23 from CU_arr (by decide) (by decide) rfl rfl (fun k => rfl)]
  refine And.intro rfl ?_
  rw [show rfW (CU L 201 9 187 23) 187 24 (some ((CU L 200 9 187 23).2.2.2 + 1)) = CU L 201 9 187 25 from CU_setd (by decide) (by decide) (by decide) rfl (fun k a b => by
    have e : k = 23 := by omega
    subst e; rfl)]
  refine And.intro ⟨by decide, by decide⟩ ?_
  rw [show nwW (CU L 201 9 187 25) (akd ArrayType.int) (Int.toNat 1024) = CU L 202 9 187 25 from CU_arr (by decide) (by decide) rfl rfl (fun k => rfl)]
  refine And.intro rfl ?_
  rw [show rfW (CU L 202 9 187 25) 187 25 (some ((CU L 201 9 187 25).2.2.2 + 1)) = CU L 202 9 187 26 from CU_setd (by decide) (by decide) (by decide) rfl (fun k a b => by omega)]
  rw [CU_end]
  have z : ∀ a, 187 ≤ a → a ≤ 202 → ∀ k, (zrM (zrM (zrM (zrM (zrM (zrM (zrM (zrM (zrM (zrM (zrM (zrM (zrM (zrM (zrM (zrM M 187) 188) 189) 190) 191) 192) 193) 194) 195) 196) 197) 198) 199) 200) 201) 202) a k = 0 := by
    intro a h1 h2 k
    unfold zrM
    repeat' split
    all_goals first | rfl | omega
  have y : ∀ a, a < 187 → (zrM (zrM (zrM (zrM (zrM (zrM (zrM (zrM (zrM (zrM (zrM (zrM (zrM (zrM (zrM (zrM M 187) 188) 189) 190) 191) 192) 193) 194) 195) 196) 197) 198) 199) 200) 201) 202) a = M a := fun a ha => by rw [zr_ne (by omega), zr_ne (by omega), zr_ne (by omega), zr_ne (by omega), zr_ne (by omega), zr_ne (by omega), zr_ne (by omega), zr_ne (by omega), zr_ne (by omega), zr_ne (by omega), zr_ne (by omega), zr_ne (by omega), zr_ne (by omega), zr_ne (by omega), zr_ne (by omega), zr_ne (by omega)]
  refine And.intro rfl ?_
  refine m_begins hG (fun M1 r1 g1 => ?_)
  have g1 : ∀ b, b ≠ 189 → M1 b = (zrM (zrM (zrM (zrM (zrM (zrM (zrM (zrM (zrM (zrM (zrM (zrM (zrM (zrM (zrM (zrM M 187) 188) 189) 190) 191) 192) 193) 194) 195) 196) 197) 198) 199) 200) 201) 202) b := g1
  refine And.intro rfl ?_
  refine m_settles hG r1 E6_wf (T := T) (H := H) (I := I) (m := m) (r := r) (fun M2 c2 f2 => ?_)
  refine h M2 c2 (f2.2 (fun k hk => ?_)) (fun a ha => ?_)
  · rw [g1 197 (by decide), g1 198 (by decide), z 197 (by decide) (by decide), z 198 (by decide) (by decide)]
    exact ⟨⟨by decide, by decide⟩, by decide, by decide⟩
  · rw [f2.1 a ha, g1 a (by omega), y a ha]
end Init
