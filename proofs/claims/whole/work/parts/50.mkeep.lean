/-! ===== the model: keep ===== -/
section Mod
variable {Γ : GG} {L : Nat} {M : MM} {Q : QT} {S : ST}
theorem l_mkeep (hG : GOK Γ) {i : Nat} (hi : i < 2) (M0 : MM) (h : ∀ M', (∀ x, x < 57 → M' 192 (57 * i + x) = M0 190 x) → (∀ y, (y < 57 * i ∨ 57 * i + 57 ≤ y) → M' 192 y = M0 192 y) → (∀ a, a ≠ 192 → M' a = M0 a) → wp Γ mX10_keep 47 [some (VR 187), some (VI i), some (VI 57)] [] 0 0 (W0 L) M' Q) : ∀ (j k : Nat) (M1 : MM), k + j = 57 → (∀ x, x < k → M1 192 (57 * i + x) = M0 190 x) → (∀ y, (y < 57 * i ∨ 57 * i + 57 ≤ y) → M1 192 y = M0 192 y) → (∀ a, a ≠ 192 → M1 a = M0 a) → wp Γ mX10_keep 18 [some (VR 187), some (VI i), some (VI k)] [] 0 0 (W0 L) M1 Q := by
  intro j
  induction j with
  | zero =>
    intro k M1 hk h1 h2 hf
    have e : k = 57 := by omega
    subst e
    refine vc_goS hG 60 [47] (B := bX10_keep) rfl ?_
    exact And.intro (fun y => h M1 h1 h2 hf) (fun y => by omega)
  | succ j ih =>
    intro k M1 hk h1 h2 hf
    refine vc_goS hG 60 [47] (B := bX10_keep) rfl ?_
    refine And.intro (fun y => by omega) (fun y => ?_)
    refine And.intro rfl (Exists.intro _ (And.intro rfl ?_))
    refine And.intro (by omega) (And.intro (by omega) ?_)
    refine And.intro rfl (Exists.intro _ (And.intro rfl ?_))
    refine And.intro (Or.inl rfl) (Exists.intro k (And.intro rfl (And.intro (show k < 57 by omega) ?_)))
    refine And.intro rfl (Exists.intro (57 * i + k) (And.intro (by omega) (And.intro (show 57 * i + k < 114 by omega) ?_)))
    refine And.intro (by omega) ?_
    refine ih (k + 1) _ (by omega) (fun x hx => ?_) (fun y hy => by rw [upM_k (by omega)]; exact h2 y hy) (fun a ha => by rw [upM_ne ha]; exact hf a ha)
    by_cases q : x = k
    · subst q; rw [upM_eq, hf 190 (by decide)]
    · rw [upM_k (by omega)]; exact h1 x (by omega)
theorem y_keep (hG : GOK Γ) (hc : MR M S) {i : Int} (h : OutM Q L M (fKeep S i)) : wp Γ mX10_keep 0 [some (VR 187), some (VI i)] [] 0 0 (W0 L) M Q := by
  have hc0 := hc.th
  have f0 := frM_th M
  obtain ⟨c1, c2, c3, c4, c5, c6⟩ := id hc0
  refine vc_go hG 60 (B := bX10_keep) rfl ?_
  refine And.intro rfl ?_
  refine m_in hG (fun z => ?_) (fun z => And.intro (fun c => absurd rfl c) (fun c => h.go (cit_n z) rfl hc0 f0))
  refine And.intro (fun c => ?_) (fun c => absurd c (by decide))
  have e1 : fKeep S i = _ := cit_y z
  have ei : i = ((i.toNat : Nat) : Int) := by omega
  have hi : i.toNat < 2 := by omega
  have key := l_mkeep (L := L) (Q := Q) hG (i := i.toNat) hi (upM M 187 0 0) (fun M1 a1 a2 a3 => ?_) 57 0 (upM M 187 0 0) rfl (fun x hx => by omega) (fun y _ => rfl) (fun a _ => rfl)
  · rw [← ei] at key
    exact key
  · have r1 : RwR M1 190 (sG S) := c1.keep (a3 190 (by decide))
    refine vc_go hG 60 (B := bX10_keep) rfl ?_
    refine And.intro rfl (Exists.intro _ (And.intro rfl ?_))
    refine And.intro rfl (Exists.intro i.toNat (And.intro rfl (And.intro (show i.toNat < 2 from hi) (And.intro (Or.inr rfl) ?_))))
    refine And.intro rfl (Exists.intro _ (And.intro rfl ?_))
    refine And.intro (Or.inl rfl) (Exists.intro 0 (And.intro rfl (And.intro (show 0 < 57 by decide) ?_)))
    refine h.go e1 (by rw [upM_a (by decide)]; exact r1.1) ⟨r1.keep (upM_ne (by decide)), c2, c3.keep (by rw [upM_a (by decide), a3 187 (by decide)]) (by rw [upM_ne (by decide), a3 188 (by decide)]), c4.keep (by rw [upM_a (by decide), a3 187 (by decide)]) (by rw [upM_ne (by decide), a3 194 (by decide)]), fun j hj => ?_, c6.keep (by rw [upM_a (by decide), a3 187 (by decide)]) (by rw [upM_ne (by decide), a3 195 (by decide)]) (by rw [upM_ne (by decide), a3 196 (by decide)])⟩ (frM.o (fun a ha => by rw [upM_ne (by omega), a3 a (by omega)]; exact upM_ne (by omega)))
    show _ = ((upN (sx S) i.toNat 1 j : Nat) : Int) ∧ upN (sx S) i.toNat 1 j ≤ 1 ∧ (upN (sx S) i.toNat 1 j = 1 → RwO _ 192 (57 * j) (upN (sI S) i.toNat (sG S) j) ∧ WFG (upN (sI S) i.toNat (sG S) j))
    by_cases q : j = i.toNat
    · subst q
      rw [upM_eq, upN_eq, upN_eq]
      exact ⟨rfl, Nat.le_refl _, fun _ => ⟨RwO.cp c1.o c2 (fun x hx => by rw [upM_a (by decide), Nat.zero_add]; exact a1 x hx), c2⟩⟩
    · rw [upM_k q, upN_ne q, upN_ne q, a3 193 (by decide)]
      obtain ⟨i1, i2, i3⟩ := c5 j hj
      refine ⟨i1, i2, fun z9 => ⟨RwO.cp (i3 z9).1 (i3 z9).2 (fun x hx => ?_), (i3 z9).2⟩⟩
      rw [upM_a (by decide)]
      exact a2 _ (by omega)
end Mod
