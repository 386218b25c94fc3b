/-! ===== the class: constructors (by gen69.py) ===== -/
theorem k2r {L g : Nat} {P : Nat → Prop} (n : Nat) (h : ∀ k, P (n + k)) : ∀ k, n ≤ k → P k := fun k hk => by
  have := h (k - n)
  rw [show n + (k - n) = k by omega] at this
  exact this
theorem WG_of {L g : Nat} (h0 : GrL (W0 L) g) (h1 : (W0 L).2.1 g = 0) (h2 : ∀ k, (W0 L).2.2.1 g (k + 2) = none) (h3 : ∀ k, (W0 L).2.2.1 (g + 1) (k + 7) = none) (h4 : ∀ t, 2 ≤ t → t ≤ 9 → ∀ k, (W0 L).2.2.1 (g + t) k = none) : WG L g := by
  refine ⟨h0, h1, fun k hk => ?_, fun k hk => ?_, h4⟩
  · have := h2 (k - 2)
    rw [show k - 2 + 2 = k by omega] at this
    exact this
  · have := h3 (k - 7)
    rw [show k - 7 + 7 = k by omega] at this
    exact this
theorem t29 {P : Nat → Prop} (h2 : P 2) (h3 : P 3) (h4 : P 4) (h5 : P 5) (h6 : P 6) (h7 : P 7) (h8 : P 8) (h9 : P 9) : ∀ t, 2 ≤ t → t ≤ 9 → P t := by
  intro t a b
  match t, a, b with
  | 2, _, _ => exact h2
  | 3, _, _ => exact h3
  | 4, _, _ => exact h4
  | 5, _, _ => exact h5
  | 6, _, _ => exact h6
  | 7, _, _ => exact h7
  | 8, _, _ => exact h8
  | 9, _, _ => exact h9
  | 0, a, _ => omega
  | 1, a, _ => omega
  | t + 10, _, b => omega
theorem WG_2 (L : Nat) : WG L 2 := WG_of (W0_g2 L) rfl (fun _ => rfl) (fun _ => rfl) (t29 (fun _ => rfl) (fun _ => rfl) (fun _ => rfl) (fun _ => rfl) (fun _ => rfl) (fun _ => rfl) (fun _ => rfl) (fun _ => rfl))
theorem WG_12 (L : Nat) : WG L 12 := WG_of (W0_g12 L) rfl (fun _ => rfl) (fun _ => rfl) (t29 (fun _ => rfl) (fun _ => rfl) (fun _ => rfl) (fun _ => rfl) (fun _ => rfl) (fun _ => rfl) (fun _ => rfl) (fun _ => rfl))
theorem WG_26 (L : Nat) : WG L 26 := WG_of (W0_g26 L) rfl (fun _ => rfl) (fun _ => rfl) (t29 (fun _ => rfl) (fun _ => rfl) (fun _ => rfl) (fun _ => rfl) (fun _ => rfl) (fun _ => rfl) (fun _ => rfl) (fun _ => rfl))
theorem WG_36 (L : Nat) : WG L 36 := WG_of (W0_g36 L) rfl (fun _ => rfl) (fun _ => rfl) (t29 (fun _ => rfl) (fun _ => rfl) (fun _ => rfl) (fun _ => rfl) (fun _ => rfl) (fun _ => rfl) (fun _ => rfl) (fun _ => rfl))
theorem WG_46 (L : Nat) : WG L 46 := WG_of (W0_g46 L) rfl (fun _ => rfl) (fun _ => rfl) (t29 (fun _ => rfl) (fun _ => rfl) (fun _ => rfl) (fun _ => rfl) (fun _ => rfl) (fun _ => rfl) (fun _ => rfl) (fun _ => rfl))
theorem WG_56 (L : Nat) : WG L 56 := WG_of (W0_g56 L) rfl (fun _ => rfl) (fun _ => rfl) (t29 (fun _ => rfl) (fun _ => rfl) (fun _ => rfl) (fun _ => rfl) (fun _ => rfl) (fun _ => rfl) (fun _ => rfl) (fun _ => rfl))
theorem WG_66 (L : Nat) : WG L 66 := WG_of (W0_g66 L) rfl (fun _ => rfl) (fun _ => rfl) (t29 (fun _ => rfl) (fun _ => rfl) (fun _ => rfl) (fun _ => rfl) (fun _ => rfl) (fun _ => rfl) (fun _ => rfl) (fun _ => rfl))
theorem WG_76 (L : Nat) : WG L 76 := WG_of (W0_g76 L) rfl (fun _ => rfl) (fun _ => rfl) (t29 (fun _ => rfl) (fun _ => rfl) (fun _ => rfl) (fun _ => rfl) (fun _ => rfl) (fun _ => rfl) (fun _ => rfl) (fun _ => rfl))
theorem WG_86 (L : Nat) : WG L 86 := WG_of (W0_g86 L) rfl (fun _ => rfl) (fun _ => rfl) (t29 (fun _ => rfl) (fun _ => rfl) (fun _ => rfl) (fun _ => rfl) (fun _ => rfl) (fun _ => rfl) (fun _ => rfl) (fun _ => rfl))
theorem WG_96 (L : Nat) : WG L 96 := WG_of (W0_g96 L) rfl (fun _ => rfl) (fun _ => rfl) (t29 (fun _ => rfl) (fun _ => rfl) (fun _ => rfl) (fun _ => rfl) (fun _ => rfl) (fun _ => rfl) (fun _ => rfl) (fun _ => rfl))
theorem WG_106 (L : Nat) : WG L 106 := WG_of (W0_g106 L) rfl (fun _ => rfl) (fun _ => rfl) (t29 (fun _ => rfl) (fun _ => rfl) (fun _ => rfl) (fun _ => rfl) (fun _ => rfl) (fun _ => rfl) (fun _ => rfl) (fun _ => rfl))
theorem WG_116 (L : Nat) : WG L 116 := WG_of (W0_g116 L) rfl (fun _ => rfl) (fun _ => rfl) (t29 (fun _ => rfl) (fun _ => rfl) (fun _ => rfl) (fun _ => rfl) (fun _ => rfl) (fun _ => rfl) (fun _ => rfl) (fun _ => rfl))
theorem WG_129 (L : Nat) : WG L 129 := WG_of (W0_g129 L) rfl (fun _ => rfl) (fun _ => rfl) (t29 (fun _ => rfl) (fun _ => rfl) (fun _ => rfl) (fun _ => rfl) (fun _ => rfl) (fun _ => rfl) (fun _ => rfl) (fun _ => rfl))
theorem WG_139 (L : Nat) : WG L 139 := WG_of (W0_g139 L) rfl (fun _ => rfl) (fun _ => rfl) (t29 (fun _ => rfl) (fun _ => rfl) (fun _ => rfl) (fun _ => rfl) (fun _ => rfl) (fun _ => rfl) (fun _ => rfl) (fun _ => rfl))
theorem WG_157 (L : Nat) : WG L 157 := WG_of (W0_g157 L) rfl (fun _ => rfl) (fun _ => rfl) (t29 (fun _ => rfl) (fun _ => rfl) (fun _ => rfl) (fun _ => rfl) (fun _ => rfl) (fun _ => rfl) (fun _ => rfl) (fun _ => rfl))
theorem WG_171 (L : Nat) : WG L 171 := WG_of (W0_g171 L) rfl (fun _ => rfl) (fun _ => rfl) (t29 (fun _ => rfl) (fun _ => rfl) (fun _ => rfl) (fun _ => rfl) (fun _ => rfl) (fun _ => rfl) (fun _ => rfl) (fun _ => rfl))
theorem WN_of {L a : Nat} (h0 : NrL (W0 L) a) (h1 : (W0 L).2.1 a = 0) (h2 : ∀ k, (W0 L).2.2.1 a (k + 2) = none) (h3 : ∀ k, (W0 L).2.2.1 (a + 1) k = none) (h4 : ∀ k, (W0 L).2.2.1 (a + 2) k = none) : WN L a := by
  refine ⟨h0, h1, fun k hk => ?_, fun t a b => ?_⟩
  · have := h2 (k - 2)
    rw [show k - 2 + 2 = k by omega] at this
    exact this
  · match t, a, b with
    | 0, a, _ => omega
    | 1, _, _ => exact h3
    | 2, _, _ => exact h4
    | t + 3, _, b => omega
theorem WN_153 (L : Nat) : WN L 153 := WN_of (W0_n153 L) rfl (fun _ => rfl) (fun _ => rfl) (fun _ => rfl)
theorem WN_167 (L : Nat) : WN L 167 := WN_of (W0_n167 L) rfl (fun _ => rfl) (fun _ => rfl) (fun _ => rfl)
theorem WN_181 (L : Nat) : WN L 181 := WN_of (W0_n181 L) rfl (fun _ => rfl) (fun _ => rfl) (fun _ => rfl)
theorem WN_184 (L : Nat) : WN L 184 := WN_of (W0_n184 L) rfl (fun _ => rfl) (fun _ => rfl) (fun _ => rfl)
theorem rge {f : Nat → Option Nat} (m : Nat) (h : ∀ k, f (k + m) = none) : ∀ k, m ≤ k → f k = none := fun k hk => by
  have := h (k - m)
  rw [show k - m + m = k by omega] at this
  exact this
theorem zr_ne {M : MM} {a b : Nat} (h : b ≠ a) : zrM M a b = M b := funext (fun k => by show (if b = a then 0 else M b k) = M b k; rw [if_neg h])
theorem zr_eq {M : MM} {a k : Nat} : zrM M a a k = 0 := by show (if a = a then 0 else M a k) = 0; rw [if_pos rfl]
theorem upM_z {M : MM} {a k b : Nat} {x : Int} (h : b ≠ a) : upM M a k x b = M b := upM_ne h
section Init
variable {Γ : GG} {L : Nat} {M : MM} {Q : QT}
theorem c_tInit (hG : GOK Γ) (h : ∀ M' : MM, M' 22 1 = 0 → (∀ a, a < 22 → M' a = M a) → Q none (CU L 23 2 22 1) M') : wp Γ mX7_init 0 [some (VR 22)] [] 0 0 (nwW (CU L 21 2 0 0) 11 0) (zrM M 22) Q := by
  rw [show nwW (CU L 21 2 0 0) 11 0 = CU L 22 2 22 0 from CU_obj (by decide) rfl rfl (fun k _ => rfl)]
  refine vc_go hG 60 (B := bX7_init) rfl ?_
  refine And.intro ⟨by decide, by decide⟩ (And.intro rfl ?_)
  have q := h (zrM (zrM M 22) 23) (by rw [zr_ne (by decide)]; exact zr_eq) (fun a ha => by rw [zr_ne (by omega), zr_ne (by omega)])
  rw [← show rfW (CU L 23 2 22 0) 22 0 (some 23) = CU L 23 2 22 1 from CU_setd (by decide) (by decide) (Nat.le_refl _) rfl (fun k a b => by omega), ← show nwW (CU L 22 2 22 0) 0 80 = CU L 23 2 22 0 from CU_arr (by decide) (by decide) rfl rfl (fun k => rfl)] at q
  exact q
theorem hs_10 (hG : GOK Γ) (h : ∀ M' : MM, M' 24 = M 24 → (∀ a, a < 24 → M' a = M a) → Q none (CU L 125 3 25 10) M') : wp Γ mX2_init 21 [some (VR 24), some (VI 10)] [] 101 1100 (CU L 125 3 25 10) M Q := by
  refine vc_go hG 60 (B := bX2_init) rfl ?_
  exact And.intro (fun _ => h M rfl (fun _ _ => rfl)) (fun y => absurd y (by decide))
theorem hs_9 (hG : GOK Γ) (h : ∀ M' : MM, M' 24 = M 24 → (∀ a, a < 24 → M' a = M a) → Q none (CU L 125 3 25 10) M') : wp Γ mX2_init 21 [some (VR 24), some (VI 9)] [] 91 991 (CU L 115 3 25 9) M Q := by
  refine vc_go hG 60 (B := bX2_init) rfl ?_
  refine And.intro (fun y => absurd y (by decide)) (fun _ => ?_)
  refine And.intro rfl (Exists.intro 25 (And.intro rfl ?_))
  refine c_gInit hG (n := 115) (WG_116 L) (by decide) (by decide) (fun M1 g1 f1 => ?_)
  refine And.intro rfl (And.intro (show (CU L 125 3 25 9).1 116 = 5 from rfl) (Exists.intro 9 (And.intro rfl (And.intro (show 9 < 10 by decide) ?_))))
  refine And.intro (by decide) ?_
  have q := hs_10 (L := L) (M := M1) hG (fun M' z1 z2 => h M' (z1.trans (f1 24 (by decide))) (fun a ha => (z2 a ha).trans (f1 a (by omega))))
  rw [← show rfW (CU L 125 3 25 9) 25 9 (some 116) = CU L 125 3 25 10 from CU_setd (by decide) (by decide) (Nat.le_refl _) rfl (fun k a b => by omega)] at q
  exact q
theorem hs_8 (hG : GOK Γ) (h : ∀ M' : MM, M' 24 = M 24 → (∀ a, a < 24 → M' a = M a) → Q none (CU L 125 3 25 10) M') : wp Γ mX2_init 21 [some (VR 24), some (VI 8)] [] 81 882 (CU L 105 3 25 8) M Q := by
  refine vc_go hG 60 (B := bX2_init) rfl ?_
  refine And.intro (fun y => absurd y (by decide)) (fun _ => ?_)
  refine And.intro rfl (Exists.intro 25 (And.intro rfl ?_))
  refine c_gInit hG (n := 105) (WG_106 L) (by decide) (by decide) (fun M1 g1 f1 => ?_)
  refine And.intro rfl (And.intro (show (CU L 115 3 25 8).1 106 = 5 from rfl) (Exists.intro 8 (And.intro rfl (And.intro (show 8 < 10 by decide) ?_))))
  refine And.intro (by decide) ?_
  have q := hs_9 (L := L) (M := M1) hG (fun M' z1 z2 => h M' (z1.trans (f1 24 (by decide))) (fun a ha => (z2 a ha).trans (f1 a (by omega))))
  rw [← show rfW (CU L 115 3 25 8) 25 8 (some 106) = CU L 115 3 25 9 from CU_setd (by decide) (by decide) (Nat.le_refl _) rfl (fun k a b => by omega)] at q
  exact q
theorem hs_7 (hG : GOK Γ) (h : ∀ M' : MM, M' 24 = M 24 → (∀ a, a < 24 → M' a = M a) → Q none (CU L 125 3 25 10) M') : wp Γ mX2_init 21 [some (VR 24), some (VI 7)] [] 71 773 (CU L 95 3 25 7) M Q := by
  refine vc_go hG 60 (B := bX2_init) rfl ?_
  refine And.intro (fun y => absurd y (by decide)) (fun _ => ?_)
  refine And.intro rfl (Exists.intro 25 (And.intro rfl ?_))
  refine c_gInit hG (n := 95) (WG_96 L) (by decide) (by decide) (fun M1 g1 f1 => ?_)
  refine And.intro rfl (And.intro (show (CU L 105 3 25 7).1 96 = 5 from rfl) (Exists.intro 7 (And.intro rfl (And.intro (show 7 < 10 by decide) ?_))))
  refine And.intro (by decide) ?_
  have q := hs_8 (L := L) (M := M1) hG (fun M' z1 z2 => h M' (z1.trans (f1 24 (by decide))) (fun a ha => (z2 a ha).trans (f1 a (by omega))))
  rw [← show rfW (CU L 105 3 25 7) 25 7 (some 96) = CU L 105 3 25 8 from CU_setd (by decide) (by decide) (Nat.le_refl _) rfl (fun k a b => by omega)] at q
  exact q
theorem hs_6 (hG : GOK Γ) (h : ∀ M' : MM, M' 24 = M 24 → (∀ a, a < 24 → M' a = M a) → Q none (CU L 125 3 25 10) M') : wp Γ mX2_init 21 [some (VR 24), some (VI 6)] [] 61 664 (CU L 85 3 25 6) M Q := by
  refine vc_go hG 60 (B := bX2_init) rfl ?_
  refine And.intro (fun y => absurd y (by decide)) (fun _ => ?_)
  refine And.intro rfl (Exists.intro 25 (And.intro rfl ?_))
  refine c_gInit hG (n := 85) (WG_86 L) (by decide) (by decide) (fun M1 g1 f1 => ?_)
  refine And.intro rfl (And.intro (show (CU L 95 3 25 6).1 86 = 5 from rfl) (Exists.intro 6 (And.intro rfl (And.intro (show 6 < 10 by decide) ?_))))
  refine And.intro (by decide) ?_
  have q := hs_7 (L := L) (M := M1) hG (fun M' z1 z2 => h M' (z1.trans (f1 24 (by decide))) (fun a ha => (z2 a ha).trans (f1 a (by omega))))
  rw [← show rfW (CU L 95 3 25 6) 25 6 (some 86) = CU L 95 3 25 7 from CU_setd (by decide) (by decide) (Nat.le_refl _) rfl (fun k a b => by omega)] at q
  exact q
theorem hs_5 (hG : GOK Γ) (h : ∀ M' : MM, M' 24 = M 24 → (∀ a, a < 24 → M' a = M a) → Q none (CU L 125 3 25 10) M') : wp Γ mX2_init 21 [some (VR 24), some (VI 5)] [] 51 555 (CU L 75 3 25 5) M Q := by
  refine vc_go hG 60 (B := bX2_init) rfl ?_
  refine And.intro (fun y => absurd y (by decide)) (fun _ => ?_)
  refine And.intro rfl (Exists.intro 25 (And.intro rfl ?_))
  refine c_gInit hG (n := 75) (WG_76 L) (by decide) (by decide) (fun M1 g1 f1 => ?_)
  refine And.intro rfl (And.intro (show (CU L 85 3 25 5).1 76 = 5 from rfl) (Exists.intro 5 (And.intro rfl (And.intro (show 5 < 10 by decide) ?_))))
  refine And.intro (by decide) ?_
  have q := hs_6 (L := L) (M := M1) hG (fun M' z1 z2 => h M' (z1.trans (f1 24 (by decide))) (fun a ha => (z2 a ha).trans (f1 a (by omega))))
  rw [← show rfW (CU L 85 3 25 5) 25 5 (some 76) = CU L 85 3 25 6 from CU_setd (by decide) (by decide) (Nat.le_refl _) rfl (fun k a b => by omega)] at q
  exact q
theorem hs_4 (hG : GOK Γ) (h : ∀ M' : MM, M' 24 = M 24 → (∀ a, a < 24 → M' a = M a) → Q none (CU L 125 3 25 10) M') : wp Γ mX2_init 21 [some (VR 24), some (VI 4)] [] 41 446 (CU L 65 3 25 4) M Q := by
  refine vc_go hG 60 (B := bX2_init) rfl ?_
  refine And.intro (fun y => absurd y (by decide)) (fun _ => ?_)
  refine And.intro rfl (Exists.intro 25 (And.intro rfl ?_))
  refine c_gInit hG (n := 65) (WG_66 L) (by decide) (by decide) (fun M1 g1 f1 => ?_)
  refine And.intro rfl (And.intro (show (CU L 75 3 25 4).1 66 = 5 from rfl) (Exists.intro 4 (And.intro rfl (And.intro (show 4 < 10 by decide) ?_))))
  refine And.intro (by decide) ?_
  have q := hs_5 (L := L) (M := M1) hG (fun M' z1 z2 => h M' (z1.trans (f1 24 (by decide))) (fun a ha => (z2 a ha).trans (f1 a (by omega))))
  rw [← show rfW (CU L 75 3 25 4) 25 4 (some 66) = CU L 75 3 25 5 from CU_setd (by decide) (by decide) (Nat.le_refl _) rfl (fun k a b => by omega)] at q
  exact q
theorem hs_3 (hG : GOK Γ) (h : ∀ M' : MM, M' 24 = M 24 → (∀ a, a < 24 → M' a = M a) → Q none (CU L 125 3 25 10) M') : wp Γ mX2_init 21 [some (VR 24), some (VI 3)] [] 31 337 (CU L 55 3 25 3) M Q := by
  refine vc_go hG 60 (B := bX2_init) rfl ?_
  refine And.intro (fun y => absurd y (by decide)) (fun _ => ?_)
  refine And.intro rfl (Exists.intro 25 (And.intro rfl ?_))
  refine c_gInit hG (n := 55) (WG_56 L) (by decide) (by decide) (fun M1 g1 f1 => ?_)
  refine And.intro rfl (And.intro (show (CU L 65 3 25 3).1 56 = 5 from rfl) (Exists.intro 3 (And.intro rfl (And.intro (show 3 < 10 by decide) ?_))))
  refine And.intro (by decide) ?_
  have q := hs_4 (L := L) (M := M1) hG (fun M' z1 z2 => h M' (z1.trans (f1 24 (by decide))) (fun a ha => (z2 a ha).trans (f1 a (by omega))))
  rw [← show rfW (CU L 65 3 25 3) 25 3 (some 56) = CU L 65 3 25 4 from CU_setd (by decide) (by decide) (Nat.le_refl _) rfl (fun k a b => by omega)] at q
  exact q
theorem hs_2 (hG : GOK Γ) (h : ∀ M' : MM, M' 24 = M 24 → (∀ a, a < 24 → M' a = M a) → Q none (CU L 125 3 25 10) M') : wp Γ mX2_init 21 [some (VR 24), some (VI 2)] [] 21 228 (CU L 45 3 25 2) M Q := by
  refine vc_go hG 60 (B := bX2_init) rfl ?_
  refine And.intro (fun y => absurd y (by decide)) (fun _ => ?_)
  refine And.intro rfl (Exists.intro 25 (And.intro rfl ?_))
  refine c_gInit hG (n := 45) (WG_46 L) (by decide) (by decide) (fun M1 g1 f1 => ?_)
  refine And.intro rfl (And.intro (show (CU L 55 3 25 2).1 46 = 5 from rfl) (Exists.intro 2 (And.intro rfl (And.intro (show 2 < 10 by decide) ?_))))
  refine And.intro (by decide) ?_
  have q := hs_3 (L := L) (M := M1) hG (fun M' z1 z2 => h M' (z1.trans (f1 24 (by decide))) (fun a ha => (z2 a ha).trans (f1 a (by omega))))
  rw [← show rfW (CU L 55 3 25 2) 25 2 (some 46) = CU L 55 3 25 3 from CU_setd (by decide) (by decide) (Nat.le_refl _) rfl (fun k a b => by omega)] at q
  exact q
theorem hs_1 (hG : GOK Γ) (h : ∀ M' : MM, M' 24 = M 24 → (∀ a, a < 24 → M' a = M a) → Q none (CU L 125 3 25 10) M') : wp Γ mX2_init 21 [some (VR 24), some (VI 1)] [] 11 119 (CU L 35 3 25 1) M Q := by
  refine vc_go hG 60 (B := bX2_init) rfl ?_
  refine And.intro (fun y => absurd y (by decide)) (fun _ => ?_)
  refine And.intro rfl (Exists.intro 25 (And.intro rfl ?_))
  refine c_gInit hG (n := 35) (WG_36 L) (by decide) (by decide) (fun M1 g1 f1 => ?_)
  refine And.intro rfl (And.intro (show (CU L 45 3 25 1).1 36 = 5 from rfl) (Exists.intro 1 (And.intro rfl (And.intro (show 1 < 10 by decide) ?_))))
  refine And.intro (by decide) ?_
  have q := hs_2 (L := L) (M := M1) hG (fun M' z1 z2 => h M' (z1.trans (f1 24 (by decide))) (fun a ha => (z2 a ha).trans (f1 a (by omega))))
  rw [← show rfW (CU L 45 3 25 1) 25 1 (some 36) = CU L 45 3 25 2 from CU_setd (by decide) (by decide) (Nat.le_refl _) rfl (fun k a b => by omega)] at q
  exact q
theorem hs_0 (hG : GOK Γ) (h : ∀ M' : MM, M' 24 = M 24 → (∀ a, a < 24 → M' a = M a) → Q none (CU L 125 3 25 10) M') : wp Γ mX2_init 21 [some (VR 24), some (VI 0)] [] 1 10 (CU L 25 3 25 0) M Q := by
  refine vc_go hG 60 (B := bX2_init) rfl ?_
  refine And.intro (fun y => absurd y (by decide)) (fun _ => ?_)
  refine And.intro rfl (Exists.intro 25 (And.intro rfl ?_))
  refine c_gInit hG (n := 25) (WG_26 L) (by decide) (by decide) (fun M1 g1 f1 => ?_)
  refine And.intro rfl (And.intro (show (CU L 35 3 25 0).1 26 = 5 from rfl) (Exists.intro 0 (And.intro rfl (And.intro (show 0 < 10 by decide) ?_))))
  refine And.intro (by decide) ?_
  have q := hs_1 (L := L) (M := M1) hG (fun M' z1 z2 => h M' (z1.trans (f1 24 (by decide))) (fun a ha => (z2 a ha).trans (f1 a (by omega))))
  rw [← show rfW (CU L 35 3 25 0) 25 0 (some 26) = CU L 35 3 25 1 from CU_setd (by decide) (by decide) (Nat.le_refl _) rfl (fun k a b => by omega)] at q
  exact q
theorem c_hInit (hG : GOK Γ) (h : ∀ M' : MM, M' 24 1 = 9 → M' 24 2 = 0 → (∀ a, a < 24 → M' a = M a) → Q none (CU L 125 3 25 10) M') : wp Γ mX2_init 0 [some (VR 24)] [] 0 0 (nwW (CU L 23 3 22 1) 6 0) (zrM M 24) Q := by
  rw [show nwW (CU L 23 3 22 1) 6 0 = CU L 24 3 24 0 from CU_obj (by decide) rfl rfl (rge 1 (fun k => rfl))]
  refine vc_go hG 60 (B := bX2_init) rfl ?_
  refine And.intro ⟨by decide, by decide⟩ (And.intro rfl (And.intro rfl ?_))
  have q := hs_0 (L := L) (M := upM (zrM M 24) 24 1 9) hG (fun M' z1 z2 => h M' (by rw [z1, upM_eq]) (by rw [z1, upM_k (by decide)]; exact zr_eq) (fun a ha => by rw [z2 a ha, upM_ne (by omega), zr_ne (by omega)]))
  rw [← show rfW (nwW (CU L 24 3 24 0) 3 10) 24 0 (some 25) = CU L 25 3 25 0 from CU_row (by decide) rfl rfl rfl (rge 1 (fun k => rfl))] at q
  exact q
theorem CU_img (L : Nat) : rfW (nwW (rfW (nwW (CU L 126 4 126 0) 3 2) 126 0 (some 127)) 1 2) 126 1 (some 128) = CU L 128 4 127 0 := by
  rw [show nwW (CU L 126 4 126 0) 3 2 = TW L 127 (upN (cRf L 126 4 126 0) 127 (fun _ => none)) from TW_nw rfl rfl]
  rw [show rfW (TW L 127 (upN (cRf L 126 4 126 0) 127 (fun _ => none))) 126 0 (some 127) = TW L 127 (upR (upN (cRf L 126 4 126 0) 127 (fun _ => none)) 126 0 (some 127)) from rfl]
  rw [show nwW (TW L 127 (upR (upN (cRf L 126 4 126 0) 127 (fun _ => none)) 126 0 (some 127))) 1 2 = TW L 128 (upN (upR (upN (cRf L 126 4 126 0) 127 (fun _ => none)) 126 0 (some 127)) 128 (fun _ => none)) from TW_nw rfl rfl]
  refine TW_R (fun a k => ?_)
  show (if a = 126 ∧ k = 1 then some 128 else (if a = 128 then (fun _ => none) else (fun k' => if a = 126 ∧ k' = 0 then some 127 else (if a = 127 then (fun _ => none) else cRf L 126 4 126 0 a) k')) k) = cRf L 128 4 127 0 a k
  by_cases c : a = 126
  · subst c
    rw [show cRf L 128 4 127 0 126 k = (W0 L).2.2.1 126 k from rfl]
    match k with
    | 0 => rfl
    | 1 => rfl
    | k + 2 => rfl
  · rw [if_neg (fun z => c z.1)]
    by_cases c8 : a = 128
    · subst c8; rfl
    · rw [if_neg c8]
      refine (if_neg (fun z => c z.1)).trans ?_
      by_cases c7 : a = 127
      · subst c7; rfl
      · rw [if_neg c7]
        unfold cRf
        repeat' split
        all_goals first | rfl | omega
theorem im_2 (hG : GOK Γ) (h : ∀ M' : MM, M' 128 = M 128 → (∀ a, a < 126 → M' a = M a) → Q none (CU L 148 4 127 2) M') : wp Γ mX3_init 21 [some (VR 126), some (VI 2)] [] 22 222 (CU L 148 4 127 2) M Q := by
  refine vc_go hG 60 (B := bX3_init) rfl ?_
  exact And.intro (fun _ => h M rfl (fun _ _ => rfl)) (fun y => absurd y (by decide))
theorem im_1 (hG : GOK Γ) (h : ∀ M' : MM, M' 128 = M 128 → (∀ a, a < 126 → M' a = M a) → Q none (CU L 148 4 127 2) M') : wp Γ mX3_init 21 [some (VR 126), some (VI 1)] [] 12 113 (CU L 138 4 127 1) M Q := by
  refine vc_go hG 60 (B := bX3_init) rfl ?_
  refine And.intro (fun y => absurd y (by decide)) (fun _ => ?_)
  refine And.intro rfl (Exists.intro 127 (And.intro rfl ?_))
  refine c_gInit hG (n := 138) (WG_139 L) (by decide) (by decide) (fun M1 g1 f1 => ?_)
  refine And.intro rfl (And.intro (show (CU L 148 4 127 1).1 139 = 5 from rfl) (Exists.intro 1 (And.intro rfl (And.intro (show 1 < 2 by decide) ?_))))
  refine And.intro (by decide) ?_
  have q := im_2 (L := L) (M := M1) hG (fun M' z1 z2 => h M' (z1.trans (f1 128 (by decide))) (fun a ha => (z2 a ha).trans (f1 a (by omega))))
  rw [← show rfW (CU L 148 4 127 1) 127 1 (some 139) = CU L 148 4 127 2 from CU_setd (by decide) (by decide) (Nat.le_refl _) rfl (fun k a b => by omega)] at q
  exact q
theorem im_0 (hG : GOK Γ) (h : ∀ M' : MM, M' 128 = M 128 → (∀ a, a < 126 → M' a = M a) → Q none (CU L 148 4 127 2) M') : wp Γ mX3_init 21 [some (VR 126), some (VI 0)] [] 2 4 (CU L 128 4 127 0) M Q := by
  refine vc_go hG 60 (B := bX3_init) rfl ?_
  refine And.intro (fun y => absurd y (by decide)) (fun _ => ?_)
  refine And.intro rfl (Exists.intro 127 (And.intro rfl ?_))
  refine c_gInit hG (n := 128) (WG_129 L) (by decide) (by decide) (fun M1 g1 f1 => ?_)
  refine And.intro rfl (And.intro (show (CU L 138 4 127 0).1 129 = 5 from rfl) (Exists.intro 0 (And.intro rfl (And.intro (show 0 < 2 by decide) ?_))))
  refine And.intro (by decide) ?_
  have q := im_1 (L := L) (M := M1) hG (fun M' z1 z2 => h M' (z1.trans (f1 128 (by decide))) (fun a ha => (z2 a ha).trans (f1 a (by omega))))
  rw [← show rfW (CU L 138 4 127 0) 127 0 (some 129) = CU L 138 4 127 1 from CU_setd (by decide) (by decide) (Nat.le_refl _) rfl (fun k a b => by omega)] at q
  exact q
theorem c_iInit (hG : GOK Γ) (h : ∀ M' : MM, (∀ k, M' 128 k = 0) → (∀ a, a < 126 → M' a = M a) → Q none (CU L 148 4 127 2) M') : wp Γ mX3_init 0 [some (VR 126)] [] 0 0 (nwW (CU L 125 4 25 10) 7 0) (zrM M 126) Q := by
  rw [show nwW (CU L 125 4 25 10) 7 0 = CU L 126 4 126 0 from CU_obj (by decide) rfl rfl (rge 10 (fun k => rfl))]
  refine vc_go hG 60 (B := bX3_init) rfl ?_
  refine And.intro ⟨by decide, by decide⟩ (And.intro rfl ?_)
  refine And.intro ⟨by decide, by decide⟩ (And.intro rfl ?_)
  have q := im_0 (L := L) (M := zrM (zrM M 126) 128) hG (fun M' z1 z2 => h M' (fun k => by rw [z1]; exact zr_eq) (fun a ha => by rw [z2 a ha, zr_ne (by omega), zr_ne (by omega)]))
  rw [← CU_img L] at q
  exact q
theorem c_sInit (hG : GOK Γ) (h : ∀ M' : MM, M' 149 3 = 0 → (∀ a, a < 149 → M' a = M a) → Q none (CU L 152 5 149 3) M') : wp Γ mX6_init 0 [some (VR 149)] [] 0 0 (nwW (CU L 148 5 127 2) 10 0) (zrM M 149) Q := by
  rw [show nwW (CU L 148 5 127 2) 10 0 = CU L 149 5 149 0 from CU_obj (by decide) rfl rfl (rge 2 (fun k => rfl))]
  refine vc_go hG 60 (B := bX6_init) rfl ?_
  refine And.intro ⟨by decide, by decide⟩ (And.intro rfl ?_)
  refine And.intro ⟨by decide, by decide⟩ (And.intro rfl ?_)
  refine And.intro ⟨by decide, by decide⟩ (And.intro rfl ?_)
  have q := h (zrM (zrM (zrM (zrM M 149) 150) 151) 152) (by rw [zr_ne (by decide), zr_ne (by decide), zr_ne (by decide)]; exact zr_eq) (fun a ha => by rw [zr_ne (by omega), zr_ne (by omega), zr_ne (by omega), zr_ne (by omega)])
  rw [← show rfW (CU L 152 5 149 2) 149 2 (some 152) = CU L 152 5 149 3 from CU_setd (by decide) (by decide) (Nat.le_refl _) rfl (fun k a b => by omega), ← show nwW (CU L 151 5 149 2) 0 9 = CU L 152 5 149 2 from CU_arr (by decide) (by decide) rfl rfl (fun k => rfl),
    ← show rfW (CU L 151 5 149 1) 149 1 (some 151) = CU L 151 5 149 2 from CU_setd (by decide) (by decide) (Nat.le_refl _) rfl (fun k a b => by omega), ← show nwW (CU L 150 5 149 1) 0 6 = CU L 151 5 149 1 from CU_arr (by decide) (by decide) rfl rfl (fun k => rfl),
    ← show rfW (CU L 150 5 149 0) 149 0 (some 150) = CU L 150 5 149 1 from CU_setd (by decide) (by decide) (Nat.le_refl _) rfl (fun k a b => by omega), ← show nwW (CU L 149 5 149 0) 0 6 = CU L 150 5 149 0 from CU_arr (by decide) (by decide) rfl rfl (fun k => rfl)] at q
  exact q
end Init
