/-! ===== the model: undo, keep, limits ===== -/
section Mod
variable {Γ : GG} {L : Nat} {M : MM} {Q : QT} {S : ST}
theorem l_mundo (hG : GOK Γ) {u : Nat} (hu : u ≤ 9) (M0 : MM) (h14 : M0 187 14 = u) (h : ∀ M', (∀ x, x < 57 → M' 190 x = M0 194 (57 * u + x)) → (∀ a, a ≠ 190 → M' a = M0 a) → Q (some (VI u)) (W0 L) M') : ∀ (j k : Nat) (M1 : MM), k + j = 57 → (∀ x, x < k → M1 190 x = M0 194 (57 * u + x)) → (∀ a, a ≠ 190 → M1 a = M0 a) → wp Γ mX10_undo 27 [some (VR 187), some (VI k)] [] 0 0 (W0 L) M1 Q := by
  intro j
  induction j with
  | zero =>
    intro k M1 hk h1 hf
    have e : k = 57 := by omega
    subst e
    have e14 : M1 187 14 = u := by rw [hf 187 (by decide)]; exact h14
    refine vc_go hG 60 (B := bX10_undo) rfl ?_
    refine And.intro (fun y => ?_) (fun y => by omega)
    have := h M1 h1 hf
    rw [← e14] at this
    exact And.intro rfl this
  | succ j ih =>
    intro k M1 hk h1 hf
    have e14 : M1 187 14 = u := by rw [hf 187 (by decide)]; exact h14
    refine vc_go hG 60 (B := bX10_undo) rfl ?_
    refine And.intro (fun y => by omega) (fun y => ?_)
    refine And.intro rfl (Exists.intro _ (And.intro rfl (And.intro rfl (Exists.intro _ (And.intro rfl (And.intro rfl ?_))))))
    refine And.intro (by omega) (And.intro (by omega) ?_)
    refine And.intro (Or.inl rfl) (Exists.intro (57 * u + k) (And.intro (by rw [e14]; omega) (And.intro (show 57 * u + k < 570 by omega) ?_)))
    refine And.intro rfl (Exists.intro k (And.intro rfl (And.intro (show k < 57 by omega) ?_)))
    refine And.intro (by omega) ?_
    refine ih (k + 1) _ (by omega) (fun x hx => ?_) (fun a ha => by rw [upM_ne ha]; exact hf a ha)
    by_cases q : x = k
    · subst q; rw [upM_eq, hf 194 (by decide)]
    · rw [upM_k q]; exact h1 x (by omega)
theorem y_undo (hG : GOK Γ) (hc : MR M S) (h : OutM Q L M (fUndo S)) : wp Γ mX10_undo 0 [some (VR 187)] [] 0 0 (W0 L) M Q := by
  have hc0 := hc.th
  have f0 := frM_th M
  obtain ⟨c1, c2, c3, c4, c5, c6⟩ := id hc0
  obtain ⟨k1, k2, k3⟩ := id c4
  refine vc_go hG 60 (B := bX10_undo) rfl ?_
  refine And.intro rfl ?_
  refine And.intro rfl (And.intro (fun y => ?_) (fun y => h.go (cit_y (by omega)) rfl hc0 f0))
  have e1 : fUndo S = _ := cit_n (by omega)
  refine And.intro rfl (And.intro (by omega) (And.intro rfl ?_))
  obtain ⟨g1, g2⟩ := k3 0 (by omega)
  refine l_mundo hG (u := sk S - 1) (by omega) (upM (upM M 187 0 0) 187 14 (upM M 187 0 0 187 14 - 1)) (by rw [upM_eq, k1]; omega) (fun M1 a1 a2 => ?_) 57 0 _ rfl (fun x hx => by omega) (fun a _ => rfl)
  have r1 : RwR M1 190 (sH S 0) := (RwO.cp (o' := 0) (c := 190) (M' := M1) g1 g2 (fun x hx => by rw [Nat.zero_add, a1 x hx, upM_a (by decide)]; rfl)).z
  refine h.go e1 (by omega) ⟨r1, g2, c3.keep (by rw [a2 187 (by decide), upM_k (by decide)]) (by rw [a2 188 (by decide), upM_ne (by decide)]), ⟨by rw [a2 187 (by decide), upM_eq, k1]; show (sk S : Int) - 1 = ((sk S - 1 : Nat) : Int); omega, by show sk S - 1 ≤ 10; omega, fun i hi => ?_⟩, c5.keep (by rw [a2 193 (by decide), upM_ne (by decide)]) (by rw [a2 192 (by decide), upM_ne (by decide)]), c6.keep (by rw [a2 187 (by decide), upM_k (by decide)]) (by rw [a2 195 (by decide), upM_ne (by decide)]) (by rw [a2 196 (by decide), upM_ne (by decide)])⟩ (frM.o (fun a ha => by rw [a2 a (by omega), upM_ne (by omega)]; exact upM_ne (by omega)))
  have hi : i < sk S - 1 := hi
  obtain ⟨p1, p2⟩ := k3 (i + 1) (by omega)
  refine ⟨RwO.cp p1 p2 (fun x hx => ?_), p2⟩
  show M1 194 (57 * (sk S - 1 - 1 - i) + x) = _
  rw [a2 194 (by decide), upM_ne (by decide), show sk S - 1 - 1 - i = sk S - 1 - (i + 1) by omega]
theorem l_mdeep (hG : GOK Γ) {m : Nat} {V D : Nat → Nat} (ho : OdR M m V D) (hm : m ≤ 14) (h : Q (some (VI (mxD D m : Nat))) (W0 L) M) : ∀ (j k : Nat), k + j = m → wp Γ mX10_deepest 12 [some (VR 187), some (VI (mxD D k : Nat)), some (VI k)] [] 0 0 (W0 L) M Q := by
  have e0 := ho.1
  intro j
  induction j with
  | zero =>
    intro k hk
    have e : k = m := by omega
    subst e
    refine vc_go hG 60 (B := bX10_deepest) rfl ?_
    exact And.intro rfl (And.intro (fun y => h) (fun y => by omega))
  | succ j ih =>
    intro k hk
    have e1 := (ho.2 k (by omega)).2
    have nx := ih (k + 1) (by omega)
    rw [show mxD D (k + 1) = max (mxD D k) (D k) from rfl] at nx
    refine vc_go hG 60 (B := bX10_deepest) rfl ?_
    refine And.intro rfl (And.intro (fun y => by omega) (fun y => ?_))
    refine And.intro rfl (Exists.intro _ (And.intro rfl ?_))
    refine And.intro (Or.inl rfl) (Exists.intro k (And.intro rfl (And.intro (show k < 14 by omega) ?_)))
    refine And.intro (fun z => ?_) (fun z => ?_)
    · rw [show max (mxD D k) (D k) = mxD D k by omega] at nx
      exact And.intro (by omega) nx
    · refine And.intro rfl (Exists.intro _ (And.intro rfl ?_))
      refine And.intro (Or.inl rfl) (Exists.intro k (And.intro rfl (And.intro (show k < 14 by omega) ?_)))
      rw [show max (mxD D k) (D k) = D k by omega, ← e1] at nx
      exact And.intro (by omega) nx
theorem m_deepest (hG : GOK Γ) (hc : MR M S) (h : ∀ M', MR M' S → OdR M' (qn (sG S) + 1) (qV (sG S)) (qD (sG S)) → frK M M' → Q (some (VI (mxD (qD (sG S)) (qn (sG S) + 1) : Nat))) (W0 L) M') : wp Γ mX10_deepest 0 [some (VR 187)] [] 0 0 (W0 L) M Q := by
  have n12 := hc.2.1.1
  refine vc_go hG 60 (B := bX10_deepest) rfl ?_
  refine And.intro rfl (Exists.intro _ (And.intro rfl (And.intro rfl ?_)))
  refine m_reckons hG (RwL_s L) (by decide) (by decide) hc.1 hc.2.1 (fun M1 o1 k1 => ?_)
  exact l_mdeep hG o1 (by omega) (h M1 (hc.rk k1) o1 k1) (qn (sG S) + 1) 0 (by omega)
theorem y_limits (hG : GOK Γ) (hc : MR M S) {l : Int} (h : OutM Q L M (fLim S l)) : wp Γ mX10_limits 0 [some (VR 187), some (VI l)] [] 0 0 (W0 L) M Q := by
  have hc0 := hc.th
  have f0 := frM_th M
  refine vc_go hG 60 (B := bX10_limits) rfl ?_
  refine And.intro rfl ?_
  refine m_in hG (fun z => ?_) (fun z => And.intro (fun c => absurd rfl c) (fun c => h.go (cit_n z) rfl hc0 f0))
  refine And.intro (fun c => ?_) (fun c => absurd c (by decide))
  have e1 : fLim S l = _ := cit_y z
  refine And.intro rfl ?_
  refine m_deepest hG hc0 (fun M1 hc1 o1 k1 => ?_)
  have f1 := f0.t k1.m
  refine And.intro (fun x => ?_) (fun x => h.go (e1.trans (cit_n (by omega))) rfl hc1 f1)
  have e2 := e1.trans (cit_y x)
  refine And.intro rfl ?_
  refine m_notes hG hc1.2.2.2.1 hc1.1 hc1.2.1 (fun M2 h2 g1 g2 => ?_)
  have r2 := hc1.1.keep (g1 190 (by decide) (by decide))
  obtain ⟨s1, s2, s3, s4, s5⟩ := id r2
  have m6 := hc1.2.1.2.1
  have n12 := hc1.2.1.1
  refine And.intro rfl (Exists.intro _ (And.intro rfl ?_))
  refine And.intro (Or.inl rfl) (Exists.intro 56 (And.intro rfl (And.intro (show 56 < 57 by decide) ?_)))
  refine And.intro rfl (Exists.intro _ (And.intro rfl ?_))
  refine And.intro rfl (Exists.intro 56 (And.intro rfl (And.intro (show 56 < 57 by decide) ?_)))
  have rt : RwR (upM M2 190 56 l) 190 (limG (sG S) l.toNat) := by
    refine ⟨by rw [upM_k (by decide)]; exact s1, by rw [upM_k (by decide)]; exact s2, by rw [upM_eq]; show l = ((l.toNat : Nat) : Int); omega, fun k hk => ?_, fun k hk => ?_⟩
    · have hk : k < qn (sG S) := hk
      rw [upM_k (by omega), upM_k (by omega), upM_k (by omega), upM_k (by omega)]
      exact s4 k hk
    · have hk : k < qm (sG S) := hk
      rw [upM_k (by omega)]
      exact s5 k hk
  have cp := MR_push hc1 h2 g1 g2 rt (limG_wf hc1.2.1 (by omega)) (fun a a1 a2 a3 a4 => by rw [upM_ne a2]) (fun j hj => by rw [upM_a (by decide)]) (fun z => z.up3 (by decide) (by decide))
  exact h.go e2 s3 cp.1 (f1.t cp.2)
end Mod
