/-! ===== the model: what is noted ===== -/
theorem RwO.cp {M M' : MM} {a o c o' : Nat} {G : GT} (h : RwO M a o G) (hw : WFG G) (hc : ∀ i, i < 57 → M' c (o' + i) = M a (o + i)) : RwO M' c o' G := RwR.cp (M := fun b i => M b (o + i)) (M' := fun b i => M' b (o' + i)) h hw hc
theorem RwR.o {M : MM} {a : Nat} {G : GT} (h : RwR M a G) : RwO M a 0 G := by
  unfold RwO
  have e : (fun b i => M b (0 + i)) = M := by funext b i; rw [Nat.zero_add]
  rw [e]
  exact h
theorem RwO.z {M : MM} {a : Nat} {G : GT} (h : RwO M a 0 G) : RwR M a G := by
  unfold RwO at h
  have e : (fun b i => M b (0 + i)) = M := by funext b i; rw [Nat.zero_add]
  rw [e] at h
  exact h
section Mod
variable {Γ : GG} {L : Nat} {M : MM} {Q : QT} {S : ST} {G : GT}
theorem l_note2 (hG : GOK Γ) {u : Nat} (hu : u ≤ 9) (M0 : MM) (h14 : M0 187 14 = u) (h : ∀ M' : MM, M' 187 14 = ((u + 1 : Nat) : Int) → (∀ j, j ≠ 14 → M' 187 j = M0 187 j) → (∀ i, i < 57 → M' 194 (57 * u + i) = M0 190 i) → (∀ x, x < 57 * u → M' 194 x = M0 194 x) → (∀ a, a ≠ 187 → a ≠ 194 → M' a = M0 a) → Q none (W0 L) M') : ∀ (j k : Nat) (M1 : MM), k + j = 57 → (∀ i, i < k → M1 194 (57 * u + i) = M0 190 i) → (∀ x, x < 57 * u → M1 194 x = M0 194 x) → (∀ a, a ≠ 194 → M1 a = M0 a) → wp Γ mX10_notes 47 [some (VR 187), some (VI k)] [] 0 0 (W0 L) M1 Q := by
  intro j
  induction j with
  | zero =>
    intro k M1 hk h1 h2 hf
    have e : k = 57 := by omega
    subst e
    have e14 : M1 187 14 = u := by rw [hf 187 (by decide)]; exact h14
    refine vc_go hG 60 (B := bX10_notes) rfl ?_
    refine And.intro (fun y => ?_) (fun y => by omega)
    refine And.intro rfl (And.intro (by omega) (And.intro rfl ?_))
    refine h _ (by rw [upM_eq, e14]; rfl) (fun j hj => by rw [upM_k hj, hf 187 (by decide)]) (fun i hi => by rw [upM_a (by decide)]; exact h1 i hi) (fun x hx => by rw [upM_a (by decide)]; exact h2 x hx) (fun a a1 a2 => by rw [upM_ne a1]; exact hf a a2)
  | succ j ih =>
    intro k M1 hk h1 h2 hf
    have e14 : M1 187 14 = u := by rw [hf 187 (by decide)]; exact h14
    refine vc_go hG 60 (B := bX10_notes) rfl ?_
    refine And.intro (fun y => by omega) (fun y => ?_)
    refine And.intro rfl (Exists.intro _ (And.intro rfl (And.intro rfl ?_)))
    refine And.intro (by omega) (And.intro (by omega) ?_)
    refine And.intro rfl (Exists.intro _ (And.intro rfl ?_))
    refine And.intro (Or.inl rfl) (Exists.intro k (And.intro rfl (And.intro (show k < 57 by omega) ?_)))
    refine And.intro rfl (Exists.intro (57 * u + k) (And.intro (by rw [e14]; omega) (And.intro (show 57 * u + k < 570 by omega) ?_)))
    refine And.intro (by omega) ?_
    refine ih (k + 1) _ (by omega) (fun i hi => ?_) (fun x hx => by rw [upM_k (by omega)]; exact h2 x hx) (fun a ha => by rw [upM_ne ha]; exact hf a ha)
    by_cases q : i = k
    · subst q; rw [upM_eq, hf 190 (by decide)]
    · rw [upM_k (by omega)]; exact h1 i (by omega)
theorem l_note1 (hG : GOK Γ) (M0 : MM) (h : ∀ M', (∀ i, i < 513 → M' 194 i = M0 194 (i + 57)) → (∀ a, a ≠ 194 → M' a = M0 a) → wp Γ mX10_notes 39 [some (VR 187), some (VI 513)] [] 0 0 (W0 L) M' Q) : ∀ (j k : Nat) (M1 : MM), k + j = 513 → (∀ i, i < k → M1 194 i = M0 194 (i + 57)) → (∀ i, k ≤ i → M1 194 i = M0 194 i) → (∀ a, a ≠ 194 → M1 a = M0 a) → wp Γ mX10_notes 11 [some (VR 187), some (VI k)] [] 0 0 (W0 L) M1 Q := by
  intro j
  induction j with
  | zero =>
    intro k M1 hk h1 h2 hf
    have e : k = 513 := by omega
    subst e
    refine vc_goS hG 60 [39] (B := bX10_notes) rfl ?_
    exact And.intro (fun y => h M1 h1 hf) (fun y => by omega)
  | succ j ih =>
    intro k M1 hk h1 h2 hf
    refine vc_goS hG 60 [39] (B := bX10_notes) rfl ?_
    refine And.intro (fun y => by omega) (fun y => ?_)
    refine And.intro rfl (Exists.intro _ (And.intro rfl (And.intro rfl (Exists.intro _ (And.intro rfl ?_)))))
    refine And.intro (by omega) ?_
    refine And.intro (Or.inl rfl) (Exists.intro (k + 57) (And.intro rfl (And.intro (show k + 57 < 570 by omega) ?_)))
    refine And.intro rfl (Exists.intro k (And.intro rfl (And.intro (show k < 570 by omega) ?_)))
    refine And.intro (by omega) ?_
    refine ih (k + 1) _ (by omega) (fun i hi => ?_) (fun i hi => by rw [upM_k (by omega)]; exact h2 i (by omega)) (fun a ha => by rw [upM_ne ha]; exact hf a ha)
    by_cases q : i = k
    · subst q; rw [upM_eq]; exact h2 _ (by omega)
    · rw [upM_k q]; exact h1 i (by omega)
theorem m_notes (hG : GOK Γ) {hk : Nat} {Hs : Nat → GT} (hh : mHs M hk Hs) (hr : RwR M 190 G) (hw : WFG G) (h : ∀ M', mHs M' (min (hk + 1) 10) (csH G Hs) → (∀ a, a ≠ 187 → a ≠ 194 → M' a = M a) → (∀ j, j ≠ 14 → M' 187 j = M 187 j) → Q none (W0 L) M') : wp Γ mX10_notes 0 [some (VR 187)] [] 0 0 (W0 L) M Q := by
  obtain ⟨h1, h2, h3⟩ := hh
  refine vc_goS hG 60 [39] (B := bX10_notes) rfl ?_
  refine And.intro rfl (And.intro (fun y => ?_) (fun y => ?_))
  · refine l_note2 hG (u := hk) (by omega) M h1 (fun M' a1 a2 a3 a4 a5 => ?_) 57 0 M rfl (fun i hi => by omega) (fun x _ => rfl) (fun a _ => rfl)
    refine h M' ⟨by rw [a1]; omega, by omega, fun i hi => ?_⟩ a5 a2
    cases i with
    | zero =>
      refine ⟨RwO.cp hr.o hw (fun i hi => ?_), hw⟩
      rw [show min (hk + 1) 10 - 1 - 0 = hk by omega, Nat.zero_add]
      exact a3 i hi
    | succ i =>
      have hi : i < hk := by omega
      obtain ⟨g1, g2⟩ := h3 i hi
      refine ⟨RwO.cp g1 g2 (fun x hx => ?_), g2⟩
      rw [show min (hk + 1) 10 - 1 - (i + 1) = hk - 1 - i by omega]
      exact a4 _ (by omega)
  · have e10 : hk = 10 := by omega
    subst e10
    refine l_note1 hG M (fun M1 b1 b2 => ?_) 513 0 M rfl (fun i hi => by omega) (fun i _ => rfl) (fun a _ => rfl)
    refine vc_go hG 60 (B := bX10_notes) rfl ?_
    refine And.intro rfl ?_
    refine l_note2 hG (u := 9) (by omega) (upM M1 187 14 9) upM_eq (fun M' a1 a2 a3 a4 a5 => ?_) 57 0 _ rfl (fun i hi => by omega) (fun x _ => rfl) (fun a _ => rfl)
    refine h M' ⟨by rw [a1]; rfl, by omega, fun i hi => ?_⟩ (fun a c1 c2 => by rw [a5 a c1 c2, upM_ne c1]; exact b2 a c2) (fun j hj => by rw [a2 j hj, upM_k hj, b2 187 (by decide)])
    cases i with
    | zero =>
      refine ⟨RwO.cp hr.o hw (fun i hi => ?_), hw⟩
      rw [Nat.zero_add]
      have := a3 i hi
      rw [upM_a (by decide), b2 190 (by decide)] at this
      exact this
    | succ i =>
      have hi : i < 9 := by omega
      obtain ⟨g1, g2⟩ := h3 i (by omega)
      refine ⟨RwO.cp g1 g2 (fun x hx => ?_), g2⟩
      rw [show min (10 + 1) 10 - 1 - (i + 1) = 8 - i by omega, a4 _ (by omega), upM_a (by decide), b1 _ (by omega)]
      rw [show 57 * (8 - i) + x + 57 = 57 * (10 - 1 - i) + x by omega]
end Mod
