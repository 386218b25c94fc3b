/-! ===== the law (by gen71.py) ===== -/
theorem CR.keep {M M' : MM} {S : ST} (hc : CR M S) (hf : ∀ a, 1 ≤ a → a ≤ 186 → M' a = M a) : CR M' S := by
  obtain ⟨c1, c2, c3, c4, c5, c6, ⟨G7, c7, c7'⟩, ⟨G8, c8, c8'⟩, c9, c10⟩ := hc
  refine ⟨c1.keep (fun a a1 a2 => hf a (by omega) (by omega)), c2, c3.keep (by rw [hf 22 (by decide) (by decide)]) (hf 23 (by decide) (by decide)), c4.keep (fun a a1 a2 => hf a (by omega) (by omega)), c5.fr (fun a a1 a2 => hf a (by omega) (by omega)), c6.keep (fun a a1 a2 => hf a (by omega) (by omega)), ⟨G7, c7.keep (fun a a1 a2 => hf a (by omega) (by omega)), c7'⟩, ⟨G8, c8.keep (fun a a1 a2 => hf a (by omega) (by omega)), c8'⟩, ?_, ?_⟩
  · exact n9k c9 (hf 1 (by decide) (by decide)) (hf 154 (by decide) (by decide)) (hf 155 (by decide) (by decide))
  · exact p10k c10 (hf 1 (by decide) (by decide)) (fun a a1 a2 => hf a (by omega) (by omega))
/-- both objects stand for one and the same -/
def LI (M : MM) (S : ST) : Prop := CR M S ∧ MR M S ∧ OB M
theorem LI.m {M M1 : MM} {S : ST} (h : LI M S) (f : frC M M1) : MR M1 S ∧ OB M1 ∧ M1 0 = M 0 := ⟨h.2.1.keep (fun j _ => by rw [f 187 (by omega)]) (fun a ha => f a (by omega)), h.2.2.keep (f 197 (by omega)) (f 198 (by omega)), f 0 (by omega)⟩
theorem LI_of {M M1 M2 : MM} {S S' : ST} (h : LI M S) (c1 : CR M1 S') (f1 : frC M M1) (c2 : MR M2 S') (f2 : frM M1 M2) : LI M2 S' ∧ M2 0 = M 0 := ⟨⟨c1.keep (fun a a1 a2 => f2.1 a (by omega)), c2, f2.2 (h.m f1).2.1⟩, by rw [f2.1 0 (by decide)]; exact f1 0 (by omega)⟩
section Law
variable {Γ : GG} {L : Nat} {M : MM} {Q : QT} {S : ST}
theorem lc_0 (hG : GOK Γ) {i : Nat} (hL : L ≤ 2560) (hi : i + 5 ≤ L) (hc : LI M S) (h : ∀ M' S', LI M' S' → M' 0 = M 0 → wp Γ mL_law 764 [some (VR 0), some (VR 1), some (VR 187), some (VI i)] [] 202 10082 (W0 L) M' Q) : wp Γ mL_law 148 [some (VR 0), some (VR 1), some (VR 187), some (VI i)] [] 202 10082 (W0 L) M Q := by
  refine vc_goS hG 60 [764] (B := bL_law) rfl ?_
  refine And.intro (by omega) ?_
  refine And.intro (Or.inr rfl) (Exists.intro (i + 1) (And.intro (by omega) (And.intro (show i + 1 < L by omega) ?_)))
  refine And.intro rfl ?_
  refine x_type hG hc.1 (fun M1 c1 f1 => ?_)
  have m1 := hc.m f1
  refine And.intro (by omega) ?_
  refine And.intro (Or.inr rfl) (Exists.intro (i + 1) (And.intro (by omega) (And.intro (show i + 1 < L by omega) ?_)))
  rw [m1.2.2]
  refine And.intro rfl ?_
  refine y_type hG m1.1 (fun M2 c2 f2 => ?_)
  have z := LI_of hc c1 f1 c2 f2
  exact And.intro (fun _ => h M2 _ z.1 z.2) (fun y => absurd rfl y)
theorem lc_1 (hG : GOK Γ) {i : Nat} (hL : L ≤ 2560) (hi : i + 5 ≤ L) (hc : LI M S) (h : ∀ M' S', LI M' S' → M' 0 = M 0 → wp Γ mL_law 764 [some (VR 0), some (VR 1), some (VR 187), some (VI i)] [] 202 10082 (W0 L) M' Q) : wp Γ mL_law 171 [some (VR 0), some (VR 1), some (VR 187), some (VI i)] [] 202 10082 (W0 L) M Q := by
  refine vc_goS hG 60 [764] (B := bL_law) rfl ?_
  refine And.intro rfl ?_
  refine x_clear hG hc.1 (fun M1 c1 f1 => ?_)
  have m1 := hc.m f1
  refine And.intro rfl ?_
  refine y_clear hG m1.1 (fun M2 c2 f2 => ?_)
  have z := LI_of hc c1 f1 c2 f2
  exact And.intro (fun _ => h M2 _ z.1 z.2) (fun y => absurd rfl y)
theorem lc_2 (hG : GOK Γ) {i : Nat} (hL : L ≤ 2560) (hi : i + 5 ≤ L) (hc : LI M S) (h : ∀ M' S', LI M' S' → M' 0 = M 0 → wp Γ mL_law 764 [some (VR 0), some (VR 1), some (VR 187), some (VI i)] [] 202 10082 (W0 L) M' Q) : wp Γ mL_law 184 [some (VR 0), some (VR 1), some (VR 187), some (VI i)] [] 202 10082 (W0 L) M Q := by
  refine vc_goS hG 60 [764] (B := bL_law) rfl ?_
  refine And.intro rfl ?_
  refine x_graph hG hc.1 (fun M1 c1 f1 => ?_)
  have m1 := hc.m f1
  refine And.intro rfl ?_
  refine y_graph hG m1.1 m1.2.1 (fun M2 c2 f2 => ?_)
  have z := LI_of hc c1 f1 c2 f2
  exact And.intro (fun _ => h M2 _ z.1 z.2) (fun y => absurd rfl y)
theorem lc_3 (hG : GOK Γ) {i : Nat} (hL : L ≤ 2560) (hi : i + 5 ≤ L) (hc : LI M S) (h : ∀ M' S', LI M' S' → M' 0 = M 0 → wp Γ mL_law 764 [some (VR 0), some (VR 1), some (VR 187), some (VI i)] [] 202 10082 (W0 L) M' Q) : wp Γ mL_law 197 [some (VR 0), some (VR 1), some (VR 187), some (VI i)] [] 202 10082 (W0 L) M Q := by
  refine vc_goS hG 60 [764] (B := bL_law) rfl ?_
  refine And.intro (by omega) ?_
  refine And.intro (Or.inr rfl) (Exists.intro (i + 1) (And.intro (by omega) (And.intro (show i + 1 < L by omega) ?_)))
  refine And.intro (by omega) ?_
  refine And.intro (Or.inr rfl) (Exists.intro (i + 2) (And.intro (by omega) (And.intro (show i + 2 < L by omega) ?_)))
  refine And.intro rfl ?_
  refine x_odd hG hc.1 (fun M1 c1 f1 => ?_)
  have m1 := hc.m f1
  refine And.intro (by omega) ?_
  refine And.intro (Or.inr rfl) (Exists.intro (i + 1) (And.intro (by omega) (And.intro (show i + 1 < L by omega) ?_)))
  refine And.intro (by omega) ?_
  refine And.intro (Or.inr rfl) (Exists.intro (i + 2) (And.intro (by omega) (And.intro (show i + 2 < L by omega) ?_)))
  rw [m1.2.2]
  refine And.intro rfl ?_
  refine y_odd hG m1.1 (fun M2 c2 f2 => ?_)
  have z := LI_of hc c1 f1 c2 f2
  exact And.intro (fun _ => h M2 _ z.1 z.2) (fun y => absurd rfl y)
theorem lc_4 (hG : GOK Γ) {i : Nat} (hL : L ≤ 2560) (hi : i + 5 ≤ L) (hc : LI M S) (h : ∀ M' S', LI M' S' → M' 0 = M 0 → wp Γ mL_law 764 [some (VR 0), some (VR 1), some (VR 187), some (VI i)] [] 202 10082 (W0 L) M' Q) : wp Γ mL_law 230 [some (VR 0), some (VR 1), some (VR 187), some (VI i)] [] 202 10082 (W0 L) M Q := by
  refine vc_goS hG 60 [764] (B := bL_law) rfl ?_
  refine And.intro (by omega) ?_
  refine And.intro (Or.inr rfl) (Exists.intro (i + 1) (And.intro (by omega) (And.intro (show i + 1 < L by omega) ?_)))
  refine And.intro (by omega) ?_
  refine And.intro (Or.inr rfl) (Exists.intro (i + 2) (And.intro (by omega) (And.intro (show i + 2 < L by omega) ?_)))
  refine And.intro rfl ?_
  refine x_wanted hG hc.1 (fun M1 c1 f1 => ?_)
  have m1 := hc.m f1
  refine And.intro (by omega) ?_
  refine And.intro (Or.inr rfl) (Exists.intro (i + 1) (And.intro (by omega) (And.intro (show i + 1 < L by omega) ?_)))
  refine And.intro (by omega) ?_
  refine And.intro (Or.inr rfl) (Exists.intro (i + 2) (And.intro (by omega) (And.intro (show i + 2 < L by omega) ?_)))
  rw [m1.2.2]
  refine And.intro rfl ?_
  refine y_wanted hG m1.1 (fun M2 c2 f2 => ?_)
  have z := LI_of hc c1 f1 c2 f2
  exact And.intro (fun _ => h M2 _ z.1 z.2) (fun y => absurd rfl y)
theorem lc_5 (hG : GOK Γ) {i : Nat} (hL : L ≤ 2560) (hi : i + 5 ≤ L) (hc : LI M S) (h : ∀ M' S', LI M' S' → M' 0 = M 0 → wp Γ mL_law 764 [some (VR 0), some (VR 1), some (VR 187), some (VI i)] [] 202 10082 (W0 L) M' Q) : wp Γ mL_law 263 [some (VR 0), some (VR 1), some (VR 187), some (VI i)] [] 202 10082 (W0 L) M Q := by
  refine vc_goS hG 60 [764] (B := bL_law) rfl ?_
  refine And.intro (by omega) ?_
  refine And.intro (Or.inr rfl) (Exists.intro (i + 1) (And.intro (by omega) (And.intro (show i + 1 < L by omega) ?_)))
  refine And.intro (by omega) ?_
  refine And.intro (Or.inr rfl) (Exists.intro (i + 2) (And.intro (by omega) (And.intro (show i + 2 < L by omega) ?_)))
  refine And.intro (by omega) ?_
  refine And.intro (Or.inr rfl) (Exists.intro (i + 3) (And.intro (by omega) (And.intro (show i + 3 < L by omega) ?_)))
  refine And.intro (by omega) ?_
  refine And.intro (Or.inr rfl) (Exists.intro (i + 4) (And.intro (by omega) (And.intro (show i + 4 < L by omega) ?_)))
  refine And.intro rfl ?_
  refine x_adds hG hc.1 (fun M1 c1 f1 => ?_)
  have m1 := hc.m f1
  refine And.intro (by omega) ?_
  refine And.intro (Or.inr rfl) (Exists.intro (i + 1) (And.intro (by omega) (And.intro (show i + 1 < L by omega) ?_)))
  refine And.intro (by omega) ?_
  refine And.intro (Or.inr rfl) (Exists.intro (i + 2) (And.intro (by omega) (And.intro (show i + 2 < L by omega) ?_)))
  refine And.intro (by omega) ?_
  refine And.intro (Or.inr rfl) (Exists.intro (i + 3) (And.intro (by omega) (And.intro (show i + 3 < L by omega) ?_)))
  refine And.intro (by omega) ?_
  refine And.intro (Or.inr rfl) (Exists.intro (i + 4) (And.intro (by omega) (And.intro (show i + 4 < L by omega) ?_)))
  rw [m1.2.2]
  refine And.intro rfl ?_
  refine y_adds hG m1.1 (fun M2 c2 f2 => ?_)
  have z := LI_of hc c1 f1 c2 f2
  exact And.intro (fun _ => h M2 _ z.1 z.2) (fun y => absurd rfl y)
theorem lc_6 (hG : GOK Γ) {i : Nat} (hL : L ≤ 2560) (hi : i + 5 ≤ L) (hc : LI M S) (h : ∀ M' S', LI M' S' → M' 0 = M 0 → wp Γ mL_law 764 [some (VR 0), some (VR 1), some (VR 187), some (VI i)] [] 202 10082 (W0 L) M' Q) : wp Γ mL_law 316 [some (VR 0), some (VR 1), some (VR 187), some (VI i)] [] 202 10082 (W0 L) M Q := by
  refine vc_goS hG 60 [764] (B := bL_law) rfl ?_
  refine And.intro rfl ?_
  refine x_takes hG hc.1 (fun M1 c1 f1 => ?_)
  have m1 := hc.m f1
  refine And.intro rfl ?_
  refine y_takes hG m1.1 (fun M2 c2 f2 => ?_)
  have z := LI_of hc c1 f1 c2 f2
  exact And.intro (fun _ => h M2 _ z.1 z.2) (fun y => absurd rfl y)
theorem lc_7 (hG : GOK Γ) {i : Nat} (hL : L ≤ 2560) (hi : i + 5 ≤ L) (hc : LI M S) (h : ∀ M' S', LI M' S' → M' 0 = M 0 → wp Γ mL_law 764 [some (VR 0), some (VR 1), some (VR 187), some (VI i)] [] 202 10082 (W0 L) M' Q) : wp Γ mL_law 329 [some (VR 0), some (VR 1), some (VR 187), some (VI i)] [] 202 10082 (W0 L) M Q := by
  refine vc_goS hG 60 [764] (B := bL_law) rfl ?_
  refine And.intro (by omega) ?_
  refine And.intro (Or.inr rfl) (Exists.intro (i + 1) (And.intro (by omega) (And.intro (show i + 1 < L by omega) ?_)))
  refine And.intro rfl ?_
  refine x_wishes hG hc.1 (fun M1 c1 f1 => ?_)
  have m1 := hc.m f1
  refine And.intro (by omega) ?_
  refine And.intro (Or.inr rfl) (Exists.intro (i + 1) (And.intro (by omega) (And.intro (show i + 1 < L by omega) ?_)))
  rw [m1.2.2]
  refine And.intro rfl ?_
  refine y_wishes hG m1.1 (fun M2 c2 f2 => ?_)
  have z := LI_of hc c1 f1 c2 f2
  exact And.intro (fun _ => h M2 _ z.1 z.2) (fun y => absurd rfl y)
theorem lc_8 (hG : GOK Γ) {i : Nat} (hL : L ≤ 2560) (hi : i + 5 ≤ L) (hc : LI M S) (h : ∀ M' S', LI M' S' → M' 0 = M 0 → wp Γ mL_law 764 [some (VR 0), some (VR 1), some (VR 187), some (VI i)] [] 202 10082 (W0 L) M' Q) : wp Γ mL_law 352 [some (VR 0), some (VR 1), some (VR 187), some (VI i)] [] 202 10082 (W0 L) M Q := by
  refine vc_goS hG 60 [764] (B := bL_law) rfl ?_
  refine And.intro (by omega) ?_
  refine And.intro (Or.inr rfl) (Exists.intro (i + 1) (And.intro (by omega) (And.intro (show i + 1 < L by omega) ?_)))
  refine And.intro rfl ?_
  refine x_limits hG hc.1 (fun M1 c1 f1 => ?_)
  have m1 := hc.m f1
  refine And.intro (by omega) ?_
  refine And.intro (Or.inr rfl) (Exists.intro (i + 1) (And.intro (by omega) (And.intro (show i + 1 < L by omega) ?_)))
  rw [m1.2.2]
  refine And.intro rfl ?_
  refine y_limits hG m1.1 (fun M2 c2 f2 => ?_)
  have z := LI_of hc c1 f1 c2 f2
  exact And.intro (fun _ => h M2 _ z.1 z.2) (fun y => absurd rfl y)
theorem lc_9 (hG : GOK Γ) {i : Nat} (hL : L ≤ 2560) (hi : i + 5 ≤ L) (hc : LI M S) (h : ∀ M' S', LI M' S' → M' 0 = M 0 → wp Γ mL_law 764 [some (VR 0), some (VR 1), some (VR 187), some (VI i)] [] 202 10082 (W0 L) M' Q) : wp Γ mL_law 375 [some (VR 0), some (VR 1), some (VR 187), some (VI i)] [] 202 10082 (W0 L) M Q := by
  refine vc_goS hG 60 [764] (B := bL_law) rfl ?_
  refine And.intro rfl ?_
  refine x_undo hG hc.1 (fun M1 c1 f1 => ?_)
  have m1 := hc.m f1
  refine And.intro rfl ?_
  refine y_undo hG m1.1 (fun M2 c2 f2 => ?_)
  have z := LI_of hc c1 f1 c2 f2
  exact And.intro (fun _ => h M2 _ z.1 z.2) (fun y => absurd rfl y)
theorem lc_10 (hG : GOK Γ) {i : Nat} (hL : L ≤ 2560) (hi : i + 5 ≤ L) (hc : LI M S) (h : ∀ M' S', LI M' S' → M' 0 = M 0 → wp Γ mL_law 764 [some (VR 0), some (VR 1), some (VR 187), some (VI i)] [] 202 10082 (W0 L) M' Q) : wp Γ mL_law 388 [some (VR 0), some (VR 1), some (VR 187), some (VI i)] [] 202 10082 (W0 L) M Q := by
  refine vc_goS hG 60 [764] (B := bL_law) rfl ?_
  refine And.intro (by omega) ?_
  refine And.intro (Or.inr rfl) (Exists.intro (i + 1) (And.intro (by omega) (And.intro (show i + 1 < L by omega) ?_)))
  refine And.intro rfl ?_
  refine x_digits hG hc.1 (fun M1 c1 f1 => ?_)
  have m1 := hc.m f1
  refine And.intro (by omega) ?_
  refine And.intro (Or.inr rfl) (Exists.intro (i + 1) (And.intro (by omega) (And.intro (show i + 1 < L by omega) ?_)))
  rw [m1.2.2]
  refine And.intro rfl ?_
  refine y_digits hG m1.1 (fun M2 c2 f2 => ?_)
  have z := LI_of hc c1 f1 c2 f2
  exact And.intro (fun _ => h M2 _ z.1 z.2) (fun y => absurd rfl y)
theorem lc_11 (hG : GOK Γ) {i : Nat} (hL : L ≤ 2560) (hi : i + 5 ≤ L) (hc : LI M S) (h : ∀ M' S', LI M' S' → M' 0 = M 0 → wp Γ mL_law 764 [some (VR 0), some (VR 1), some (VR 187), some (VI i)] [] 202 10082 (W0 L) M' Q) : wp Γ mL_law 411 [some (VR 0), some (VR 1), some (VR 187), some (VI i)] [] 202 10082 (W0 L) M Q := by
  refine vc_goS hG 60 [764] (B := bL_law) rfl ?_
  refine And.intro (by omega) ?_
  refine And.intro (Or.inr rfl) (Exists.intro (i + 1) (And.intro (by omega) (And.intro (show i + 1 < L by omega) ?_)))
  refine And.intro (by omega) ?_
  refine And.intro (Or.inr rfl) (Exists.intro (i + 2) (And.intro (by omega) (And.intro (show i + 2 < L by omega) ?_)))
  refine And.intro rfl ?_
  refine x_digit hG hc.1 (fun M1 c1 f1 => ?_)
  have m1 := hc.m f1
  refine And.intro (by omega) ?_
  refine And.intro (Or.inr rfl) (Exists.intro (i + 1) (And.intro (by omega) (And.intro (show i + 1 < L by omega) ?_)))
  refine And.intro (by omega) ?_
  refine And.intro (Or.inr rfl) (Exists.intro (i + 2) (And.intro (by omega) (And.intro (show i + 2 < L by omega) ?_)))
  rw [m1.2.2]
  refine And.intro rfl ?_
  refine y_digit hG m1.1 (fun M2 c2 f2 => ?_)
  have z := LI_of hc c1 f1 c2 f2
  exact And.intro (fun _ => h M2 _ z.1 z.2) (fun y => absurd rfl y)
theorem lc_12 (hG : GOK Γ) {i : Nat} (hL : L ≤ 2560) (hi : i + 5 ≤ L) (hc : LI M S) (h : ∀ M' S', LI M' S' → M' 0 = M 0 → wp Γ mL_law 764 [some (VR 0), some (VR 1), some (VR 187), some (VI i)] [] 202 10082 (W0 L) M' Q) : wp Γ mL_law 444 [some (VR 0), some (VR 1), some (VR 187), some (VI i)] [] 202 10082 (W0 L) M Q := by
  refine vc_goS hG 60 [764] (B := bL_law) rfl ?_
  refine And.intro (by omega) ?_
  refine And.intro (Or.inr rfl) (Exists.intro (i + 1) (And.intro (by omega) (And.intro (show i + 1 < L by omega) ?_)))
  refine And.intro (by omega) ?_
  refine And.intro (Or.inr rfl) (Exists.intro (i + 2) (And.intro (by omega) (And.intro (show i + 2 < L by omega) ?_)))
  refine And.intro rfl ?_
  refine x_near hG hc.1 (fun r1 M1 q1 c1 f1 => ?_)
  have m1 := hc.m f1
  refine And.intro (by omega) ?_
  refine And.intro (Or.inr rfl) (Exists.intro (i + 1) (And.intro (by omega) (And.intro (show i + 1 < L by omega) ?_)))
  refine And.intro (by omega) ?_
  refine And.intro (Or.inr rfl) (Exists.intro (i + 2) (And.intro (by omega) (And.intro (show i + 2 < L by omega) ?_)))
  rw [m1.2.2]
  refine And.intro rfl ?_
  refine y_near hG m1.1 (fun r2 M2 q2 c2 f2 => ?_)
  have z := LI_of hc c1 f1 c2 f2
  exact And.intro (fun _ => h M2 _ z.1 z.2) (fun y => absurd (nearR_u q1 q2) y)
theorem lc_13 (hG : GOK Γ) {i : Nat} (hL : L ≤ 2560) (hi : i + 5 ≤ L) (hc : LI M S) (h : ∀ M' S', LI M' S' → M' 0 = M 0 → wp Γ mL_law 764 [some (VR 0), some (VR 1), some (VR 187), some (VI i)] [] 202 10082 (W0 L) M' Q) : wp Γ mL_law 477 [some (VR 0), some (VR 1), some (VR 187), some (VI i)] [] 202 10082 (W0 L) M Q := by
  refine vc_goS hG 60 [764] (B := bL_law) rfl ?_
  refine And.intro (by omega) ?_
  refine And.intro (Or.inr rfl) (Exists.intro (i + 1) (And.intro (by omega) (And.intro (show i + 1 < L by omega) ?_)))
  refine And.intro (by omega) ?_
  refine And.intro (Or.inr rfl) (Exists.intro (i + 2) (And.intro (by omega) (And.intro (show i + 2 < L by omega) ?_)))
  refine And.intro rfl ?_
  refine x_by hG hc.1 (fun r1 M1 q1 c1 f1 => ?_)
  have m1 := hc.m f1
  refine And.intro (by omega) ?_
  refine And.intro (Or.inr rfl) (Exists.intro (i + 1) (And.intro (by omega) (And.intro (show i + 1 < L by omega) ?_)))
  refine And.intro (by omega) ?_
  refine And.intro (Or.inr rfl) (Exists.intro (i + 2) (And.intro (by omega) (And.intro (show i + 2 < L by omega) ?_)))
  rw [m1.2.2]
  refine And.intro rfl ?_
  refine y_by hG m1.1 (fun r2 M2 q2 c2 f2 => ?_)
  have z := LI_of hc c1 f1 c2 f2
  exact And.intro (fun _ => h M2 _ z.1 z.2) (fun y => absurd (byR_u hc.1.2.1 q1 q2) y)
theorem lc_14 (hG : GOK Γ) {i : Nat} (hL : L ≤ 2560) (hi : i + 5 ≤ L) (hc : LI M S) (h : ∀ M' S', LI M' S' → M' 0 = M 0 → wp Γ mL_law 764 [some (VR 0), some (VR 1), some (VR 187), some (VI i)] [] 202 10082 (W0 L) M' Q) : wp Γ mL_law 510 [some (VR 0), some (VR 1), some (VR 187), some (VI i)] [] 202 10082 (W0 L) M Q := by
  refine vc_goS hG 60 [764] (B := bL_law) rfl ?_
  refine And.intro (by omega) ?_
  refine And.intro (Or.inr rfl) (Exists.intro (i + 1) (And.intro (by omega) (And.intro (show i + 1 < L by omega) ?_)))
  refine And.intro rfl ?_
  refine x_two hG hc.1 (fun r1 M1 q1 c1 f1 => ?_)
  have m1 := hc.m f1
  refine And.intro (by omega) ?_
  refine And.intro (Or.inr rfl) (Exists.intro (i + 1) (And.intro (by omega) (And.intro (show i + 1 < L by omega) ?_)))
  rw [m1.2.2]
  refine And.intro rfl ?_
  refine y_two hG m1.1 (fun r2 M2 q2 c2 f2 => ?_)
  have z := LI_of hc c1 f1 c2 f2
  exact And.intro (fun _ => h M2 _ z.1 z.2) (fun y => absurd (twoR_u q1 q2) y)
theorem lc_15 (hG : GOK Γ) {i : Nat} (hL : L ≤ 2560) (hi : i + 5 ≤ L) (hc : LI M S) (h : ∀ M' S', LI M' S' → M' 0 = M 0 → wp Γ mL_law 764 [some (VR 0), some (VR 1), some (VR 187), some (VI i)] [] 202 10082 (W0 L) M' Q) : wp Γ mL_law 533 [some (VR 0), some (VR 1), some (VR 187), some (VI i)] [] 202 10082 (W0 L) M Q := by
  refine vc_goS hG 60 [764] (B := bL_law) rfl ?_
  refine And.intro (by omega) ?_
  refine And.intro (Or.inr rfl) (Exists.intro (i + 1) (And.intro (by omega) (And.intro (show i + 1 < L by omega) ?_)))
  refine And.intro rfl ?_
  refine x_least hG hc.1 (fun r1 M1 q1 c1 f1 => ?_)
  have m1 := hc.m f1
  refine And.intro (by omega) ?_
  refine And.intro (Or.inr rfl) (Exists.intro (i + 1) (And.intro (by omega) (And.intro (show i + 1 < L by omega) ?_)))
  rw [m1.2.2]
  refine And.intro rfl ?_
  refine y_least hG m1.1 (fun r2 M2 q2 c2 f2 => ?_)
  have z := LI_of hc c1 f1 c2 f2
  exact And.intro (fun _ => h M2 _ z.1 z.2) (fun y => absurd (leastR_u q1 q2) y)
theorem lc_16 (hG : GOK Γ) {i : Nat} (hL : L ≤ 2560) (hi : i + 5 ≤ L) (hc : LI M S) (h : ∀ M' S', LI M' S' → M' 0 = M 0 → wp Γ mL_law 764 [some (VR 0), some (VR 1), some (VR 187), some (VI i)] [] 202 10082 (W0 L) M' Q) : wp Γ mL_law 556 [some (VR 0), some (VR 1), some (VR 187), some (VI i)] [] 202 10082 (W0 L) M Q := by
  refine vc_goS hG 60 [764] (B := bL_law) rfl ?_
  refine And.intro (by omega) ?_
  refine And.intro (Or.inr rfl) (Exists.intro (i + 1) (And.intro (by omega) (And.intro (show i + 1 < L by omega) ?_)))
  refine And.intro rfl ?_
  refine x_plan hG hc.1 (fun r1 M1 q1 c1 f1 => ?_)
  have m1 := hc.m f1
  refine And.intro (by omega) ?_
  refine And.intro (Or.inr rfl) (Exists.intro (i + 1) (And.intro (by omega) (And.intro (show i + 1 < L by omega) ?_)))
  rw [m1.2.2]
  refine And.intro rfl ?_
  refine y_plan hG m1.1 (fun r2 M2 q2 c2 f2 => ?_)
  have z := LI_of hc c1 f1 c2 f2
  exact And.intro (fun _ => h M2 _ z.1 z.2) (fun y => absurd (planR_u hc.1.2.1 q1 q2) y)
theorem lc_17 (hG : GOK Γ) {i : Nat} (hL : L ≤ 2560) (hi : i + 5 ≤ L) (hc : LI M S) (h : ∀ M' S', LI M' S' → M' 0 = M 0 → wp Γ mL_law 764 [some (VR 0), some (VR 1), some (VR 187), some (VI i)] [] 202 10082 (W0 L) M' Q) : wp Γ mL_law 579 [some (VR 0), some (VR 1), some (VR 187), some (VI i)] [] 202 10082 (W0 L) M Q := by
  refine vc_goS hG 60 [764] (B := bL_law) rfl ?_
  refine And.intro (by omega) ?_
  refine And.intro (Or.inr rfl) (Exists.intro (i + 1) (And.intro (by omega) (And.intro (show i + 1 < L by omega) ?_)))
  refine And.intro (by omega) ?_
  refine And.intro (Or.inr rfl) (Exists.intro (i + 2) (And.intro (by omega) (And.intro (show i + 2 < L by omega) ?_)))
  refine And.intro rfl ?_
  refine x_product hG hc.1 (fun M1 c1 f1 => ?_)
  have m1 := hc.m f1
  refine And.intro (by omega) ?_
  refine And.intro (Or.inr rfl) (Exists.intro (i + 1) (And.intro (by omega) (And.intro (show i + 1 < L by omega) ?_)))
  refine And.intro (by omega) ?_
  refine And.intro (Or.inr rfl) (Exists.intro (i + 2) (And.intro (by omega) (And.intro (show i + 2 < L by omega) ?_)))
  rw [m1.2.2]
  refine And.intro rfl ?_
  refine y_product hG m1.1 (fun M2 c2 f2 => ?_)
  have z := LI_of hc c1 f1 c2 f2
  exact And.intro (fun _ => h M2 _ z.1 z.2) (fun y => absurd (by rw [if_neg (Int.lt_irrefl _), if_pos rfl]) y)
theorem lc_18 (hG : GOK Γ) {i : Nat} (hL : L ≤ 2560) (hi : i + 5 ≤ L) (hc : LI M S) (h : ∀ M' S', LI M' S' → M' 0 = M 0 → wp Γ mL_law 764 [some (VR 0), some (VR 1), some (VR 187), some (VI i)] [] 202 10082 (W0 L) M' Q) : wp Γ mL_law 613 [some (VR 0), some (VR 1), some (VR 187), some (VI i)] [] 202 10082 (W0 L) M Q := by
  refine vc_goS hG 60 [764] (B := bL_law) rfl ?_
  refine And.intro (by omega) ?_
  refine And.intro (Or.inr rfl) (Exists.intro (i + 1) (And.intro (by omega) (And.intro (show i + 1 < L by omega) ?_)))
  refine And.intro (by omega) ?_
  refine And.intro (Or.inr rfl) (Exists.intro (i + 2) (And.intro (by omega) (And.intro (show i + 2 < L by omega) ?_)))
  refine And.intro rfl ?_
  refine x_sees hG hc.1 (fun M1 c1 f1 => ?_)
  have m1 := hc.m f1
  refine And.intro (by omega) ?_
  refine And.intro (Or.inr rfl) (Exists.intro (i + 1) (And.intro (by omega) (And.intro (show i + 1 < L by omega) ?_)))
  refine And.intro (by omega) ?_
  refine And.intro (Or.inr rfl) (Exists.intro (i + 2) (And.intro (by omega) (And.intro (show i + 2 < L by omega) ?_)))
  rw [m1.2.2]
  refine And.intro rfl ?_
  refine y_sees hG m1.1 (fun M2 c2 f2 => ?_)
  have z := LI_of hc c1 f1 c2 f2
  exact And.intro (fun _ => h M2 _ z.1 z.2) (fun y => absurd rfl y)
theorem lc_19 (hG : GOK Γ) {i : Nat} (hL : L ≤ 2560) (hi : i + 5 ≤ L) (hc : LI M S) (h : ∀ M' S', LI M' S' → M' 0 = M 0 → wp Γ mL_law 764 [some (VR 0), some (VR 1), some (VR 187), some (VI i)] [] 202 10082 (W0 L) M' Q) : wp Γ mL_law 646 [some (VR 0), some (VR 1), some (VR 187), some (VI i)] [] 202 10082 (W0 L) M Q := by
  refine vc_goS hG 60 [764] (B := bL_law) rfl ?_
  refine And.intro rfl ?_
  refine x_forget hG hc.1 (fun M1 c1 f1 => ?_)
  have m1 := hc.m f1
  refine And.intro rfl ?_
  refine y_forget hG m1.1 (fun M2 c2 f2 => ?_)
  have z := LI_of hc c1 f1 c2 f2
  exact And.intro (fun _ => h M2 _ z.1 z.2) (fun y => absurd rfl y)
theorem lc_20 (hG : GOK Γ) {i : Nat} (hL : L ≤ 2560) (hi : i + 5 ≤ L) (hc : LI M S) (h : ∀ M' S', LI M' S' → M' 0 = M 0 → wp Γ mL_law 764 [some (VR 0), some (VR 1), some (VR 187), some (VI i)] [] 202 10082 (W0 L) M' Q) : wp Γ mL_law 659 [some (VR 0), some (VR 1), some (VR 187), some (VI i)] [] 202 10082 (W0 L) M Q := by
  refine vc_goS hG 60 [764] (B := bL_law) rfl ?_
  refine And.intro (by omega) ?_
  refine And.intro (Or.inr rfl) (Exists.intro (i + 1) (And.intro (by omega) (And.intro (show i + 1 < L by omega) ?_)))
  refine And.intro rfl ?_
  refine x_unseen hG hc.1 (fun r1 M1 q1 c1 f1 => ?_)
  have m1 := hc.m f1
  refine And.intro (by omega) ?_
  refine And.intro (Or.inr rfl) (Exists.intro (i + 1) (And.intro (by omega) (And.intro (show i + 1 < L by omega) ?_)))
  rw [m1.2.2]
  refine And.intro rfl ?_
  refine y_unseen hG m1.1 (fun r2 M2 q2 c2 f2 => ?_)
  have z := LI_of hc c1 f1 c2 f2
  exact And.intro (fun _ => h M2 _ z.1 z.2) (fun y => absurd (unsR_u q1 q2) y)
theorem lc_21 (hG : GOK Γ) {i : Nat} (hL : L ≤ 2560) (hi : i + 5 ≤ L) (hc : LI M S) (h : ∀ M' S', LI M' S' → M' 0 = M 0 → wp Γ mL_law 764 [some (VR 0), some (VR 1), some (VR 187), some (VI i)] [] 202 10082 (W0 L) M' Q) : wp Γ mL_law 682 [some (VR 0), some (VR 1), some (VR 187), some (VI i)] [] 202 10082 (W0 L) M Q := by
  refine vc_goS hG 60 [764] (B := bL_law) rfl ?_
  refine And.intro rfl ?_
  refine x_next hG hc.1 (fun M1 c1 f1 => ?_)
  have m1 := hc.m f1
  refine And.intro rfl ?_
  refine y_next hG m1.1 (fun M2 c2 f2 => ?_)
  have z := LI_of hc c1 f1 c2 f2
  exact And.intro (fun _ => h M2 _ z.1 z.2) (fun y => absurd rfl y)
theorem lc_22 (hG : GOK Γ) {i : Nat} (hL : L ≤ 2560) (hi : i + 5 ≤ L) (hc : LI M S) (h : ∀ M' S', LI M' S' → M' 0 = M 0 → wp Γ mL_law 764 [some (VR 0), some (VR 1), some (VR 187), some (VI i)] [] 202 10082 (W0 L) M' Q) : wp Γ mL_law 695 [some (VR 0), some (VR 1), some (VR 187), some (VI i)] [] 202 10082 (W0 L) M Q := by
  refine vc_goS hG 60 [764] (B := bL_law) rfl ?_
  refine And.intro (by omega) ?_
  refine And.intro (Or.inr rfl) (Exists.intro (i + 1) (And.intro (by omega) (And.intro (show i + 1 < L by omega) ?_)))
  refine And.intro rfl ?_
  refine x_keep hG hc.1 (fun M1 c1 f1 => ?_)
  have m1 := hc.m f1
  refine And.intro (by omega) ?_
  refine And.intro (Or.inr rfl) (Exists.intro (i + 1) (And.intro (by omega) (And.intro (show i + 1 < L by omega) ?_)))
  rw [m1.2.2]
  refine And.intro rfl ?_
  refine y_keep hG m1.1 (fun M2 c2 f2 => ?_)
  have z := LI_of hc c1 f1 c2 f2
  exact And.intro (fun _ => h M2 _ z.1 z.2) (fun y => absurd rfl y)
theorem lc_23 (hG : GOK Γ) {i : Nat} (hL : L ≤ 2560) (hi : i + 5 ≤ L) (hc : LI M S) (h : ∀ M' S', LI M' S' → M' 0 = M 0 → wp Γ mL_law 764 [some (VR 0), some (VR 1), some (VR 187), some (VI i)] [] 202 10082 (W0 L) M' Q) : wp Γ mL_law 718 [some (VR 0), some (VR 1), some (VR 187), some (VI i)] [] 202 10082 (W0 L) M Q := by
  refine vc_goS hG 60 [764] (B := bL_law) rfl ?_
  refine And.intro (by omega) ?_
  refine And.intro (Or.inr rfl) (Exists.intro (i + 1) (And.intro (by omega) (And.intro (show i + 1 < L by omega) ?_)))
  refine And.intro rfl ?_
  refine x_back hG hc.1 (fun M1 c1 f1 => ?_)
  have m1 := hc.m f1
  refine And.intro (by omega) ?_
  refine And.intro (Or.inr rfl) (Exists.intro (i + 1) (And.intro (by omega) (And.intro (show i + 1 < L by omega) ?_)))
  rw [m1.2.2]
  refine And.intro rfl ?_
  refine y_back hG m1.1 (fun M2 c2 f2 => ?_)
  have z := LI_of hc c1 f1 c2 f2
  exact And.intro (fun _ => h M2 _ z.1 z.2) (fun y => absurd rfl y)
theorem lc_24 (hG : GOK Γ) {i : Nat} (hL : L ≤ 2560) (hi : i + 5 ≤ L) (hc : LI M S) (h : ∀ M' S', LI M' S' → M' 0 = M 0 → wp Γ mL_law 764 [some (VR 0), some (VR 1), some (VR 187), some (VI i)] [] 202 10082 (W0 L) M' Q) : wp Γ mL_law 741 [some (VR 0), some (VR 1), some (VR 187), some (VI i)] [] 202 10082 (W0 L) M Q := by
  refine vc_goS hG 60 [764] (B := bL_law) rfl ?_
  refine And.intro (by omega) ?_
  refine And.intro (Or.inr rfl) (Exists.intro (i + 1) (And.intro (by omega) (And.intro (show i + 1 < L by omega) ?_)))
  refine And.intro rfl ?_
  refine x_count hG hc.1 (fun M1 c1 f1 => ?_)
  have m1 := hc.m f1
  refine And.intro (by omega) ?_
  refine And.intro (Or.inr rfl) (Exists.intro (i + 1) (And.intro (by omega) (And.intro (show i + 1 < L by omega) ?_)))
  rw [m1.2.2]
  refine And.intro rfl ?_
  refine y_count hG m1.1 (fun M2 c2 f2 => ?_)
  have z := LI_of hc c1 f1 c2 f2
  exact And.intro (fun _ => h M2 _ z.1 z.2) (fun y => absurd rfl y)
theorem law_loop (hG : GOK Γ) (hL : L ≤ 2560) (hQ : ∀ w M, Q (some (VI 1)) w M) : ∀ (j i : Nat) (M : MM) (S : ST), L < i + 5 + 5 * j → i ≤ L → LI M S → wp Γ mL_law 18 [some (VR 0), some (VR 1), some (VR 187), some (VI i)] [] 202 10082 (W0 L) M Q := by
  intro j
  induction j with
  | zero =>
    intro i M S hj hi hc
    refine vc_go hG 60 (B := bL_law) rfl ?_
    refine And.intro rfl (And.intro (show inR ((L : Int) - 5) by omega) ?_)
    exact And.intro (fun _ => And.intro (Or.inr rfl) (hQ _ _)) (fun y => by have y : (i : Int) ≤ (L : Int) - 5 := y; omega)
  | succ j ih =>
    intro i M S hj hi hc
    refine vc_goS hG 60 [764, 148, 171, 184, 197, 230, 263, 316, 329, 352, 375, 388, 411, 444, 477, 510, 533, 556, 579, 613, 646, 659, 682, 695, 718, 741] (B := bL_law) rfl ?_
    refine And.intro rfl (And.intro (show inR ((L : Int) - 5) by omega) ?_)
    refine And.intro (fun _ => And.intro (Or.inr rfl) (hQ _ _)) (fun y => ?_)
    have y : (i : Int) ≤ (L : Int) - 5 := y
    have hi5 : i + 5 ≤ L := by omega
    have nx : ∀ M' S', LI M' S' → M' 0 = M 0 → wp Γ mL_law 764 [some (VR 0), some (VR 1), some (VR 187), some (VI i)] [] 202 10082 (W0 L) M' Q := by
      intro M' S' hc' _
      refine vc_go hG 60 (B := bL_law) rfl ?_
      exact And.intro (by omega) (ih (i + 5) M' S' (by omega) hi5 hc')
    refine And.intro (Or.inr rfl) (Exists.intro i (And.intro rfl (And.intro (show i < L by omega) ?_)))
    refine And.intro (fun _ => nx M S hc rfl) ?_
    refine And.intro (fun _ => lc_0 hG hL hi5 hc nx) ?_
    refine And.intro (fun _ => lc_1 hG hL hi5 hc nx) ?_
    refine And.intro (fun _ => lc_2 hG hL hi5 hc nx) ?_
    refine And.intro (fun _ => lc_3 hG hL hi5 hc nx) ?_
    refine And.intro (fun _ => lc_4 hG hL hi5 hc nx) ?_
    refine And.intro (fun _ => lc_5 hG hL hi5 hc nx) ?_
    refine And.intro (fun _ => lc_6 hG hL hi5 hc nx) ?_
    refine And.intro (fun _ => lc_7 hG hL hi5 hc nx) ?_
    refine And.intro (fun _ => lc_8 hG hL hi5 hc nx) ?_
    refine And.intro (fun _ => lc_9 hG hL hi5 hc nx) ?_
    refine And.intro (fun _ => lc_10 hG hL hi5 hc nx) ?_
    refine And.intro (fun _ => lc_11 hG hL hi5 hc nx) ?_
    refine And.intro (fun _ => lc_12 hG hL hi5 hc nx) ?_
    refine And.intro (fun _ => lc_13 hG hL hi5 hc nx) ?_
    refine And.intro (fun _ => lc_14 hG hL hi5 hc nx) ?_
    refine And.intro (fun _ => lc_15 hG hL hi5 hc nx) ?_
    refine And.intro (fun _ => lc_16 hG hL hi5 hc nx) ?_
    refine And.intro (fun _ => lc_17 hG hL hi5 hc nx) ?_
    refine And.intro (fun _ => lc_18 hG hL hi5 hc nx) ?_
    refine And.intro (fun _ => lc_19 hG hL hi5 hc nx) ?_
    refine And.intro (fun _ => lc_20 hG hL hi5 hc nx) ?_
    refine And.intro (fun _ => lc_21 hG hL hi5 hc nx) ?_
    refine And.intro (fun _ => lc_22 hG hL hi5 hc nx) ?_
    refine And.intro (fun _ => lc_23 hG hL hi5 hc nx) ?_
    refine And.intro (fun _ => lc_24 hG hL hi5 hc nx) ?_
    exact trivial
end Law
