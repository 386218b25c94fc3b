/-! ===== the model: images, undo, seen ===== -/
section Mod
variable {Γ : GG} {L : Nat} {M : MM} {Q : QT} {S : ST}
theorem l_mback (hG : GOK Γ) {i : Nat} (hi : i < 2) (M0 : MM) (h : ∀ M', (∀ x, x < 57 → M' 190 x = M0 192 (57 * i + x)) → (∀ a, a ≠ 190 → M' a = M0 a) → wp Γ mX10_back 59 [some (VR 187), some (VI i), some (VI 57)] [] 0 0 (W0 L) M' Q) : ∀ (j k : Nat) (M1 : MM), k + j = 57 → (∀ x, x < k → M1 190 x = M0 192 (57 * i + x)) → (∀ a, a ≠ 190 → M1 a = M0 a) → wp Γ mX10_back 30 [some (VR 187), some (VI i), some (VI k)] [] 0 0 (W0 L) M1 Q := by
  intro j
  induction j with
  | zero =>
    intro k M1 hk h1 hf
    have e : k = 57 := by omega
    subst e
    refine vc_goS hG 60 [59] (B := bX10_back) rfl ?_
    exact And.intro (fun y => h M1 h1 hf) (fun y => by omega)
  | succ j ih =>
    intro k M1 hk h1 hf
    refine vc_goS hG 60 [59] (B := bX10_back) rfl ?_
    refine And.intro (fun y => by omega) (fun y => ?_)
    refine And.intro rfl (Exists.intro _ (And.intro rfl (And.intro rfl (Exists.intro _ (And.intro rfl ?_)))))
    refine And.intro (by omega) (And.intro (by omega) ?_)
    refine And.intro (Or.inl rfl) (Exists.intro (57 * i + k) (And.intro (by omega) (And.intro (show 57 * i + k < 114 by omega) ?_)))
    refine And.intro rfl (Exists.intro k (And.intro rfl (And.intro (show k < 57 by omega) ?_)))
    refine And.intro (by omega) ?_
    refine ih (k + 1) _ (by omega) (fun x hx => ?_) (fun a ha => by rw [upM_ne ha]; exact hf a ha)
    by_cases q : x = k
    · subst q; rw [upM_eq, hf 192 (by decide)]
    · rw [upM_k q]; exact h1 x (by omega)
theorem y_back (hG : GOK Γ) (hc : MR M S) {i : Int} (h : OutM Q L M (fBack S i)) : wp Γ mX10_back 0 [some (VR 187), some (VI i)] [] 0 0 (W0 L) M Q := by
  have hc0 := hc.th
  have f0 := frM_th M
  obtain ⟨c1, c2, c3, c4, c5, c6⟩ := id hc0
  refine vc_go hG 60 (B := bX10_back) rfl ?_
  refine And.intro rfl ?_
  refine m_in hG (fun z => ?_) (fun z => And.intro (fun c => absurd rfl c) (fun c => h.go (cit_n z) rfl hc0 f0))
  refine And.intro (fun c => ?_) (fun c => absurd c (by decide))
  have e1 : fBack S i = _ := cit_y z
  obtain ⟨i1, i2, i3⟩ := c5 i.toNat (by omega)
  refine And.intro rfl (Exists.intro _ (And.intro rfl ?_))
  refine And.intro rfl (Exists.intro i.toNat (And.intro (by omega) (And.intro (show i.toNat < 2 by omega) ?_)))
  refine And.intro (fun y => ?_) (fun y => h.go (e1.trans (cit_n (by omega))) rfl hc0 f0)
  have e9 : sx S i.toNat = 1 := by omega
  obtain ⟨j1, j2⟩ := i3 e9
  have ei : i = ((i.toNat : Nat) : Int) := by omega
  have key := l_mback (L := L) (Q := Q) hG (i := i.toNat) (by omega) (upM M 187 0 0) (fun M1 a1 a2 => ?_) 57 0 (upM M 187 0 0) rfl (fun x hx => by omega) (fun a _ => rfl)
  · rw [← ei] at key
    exact key
  · have r1 : RwR M1 190 (sI S i.toNat) := (RwO.cp (o' := 0) (c := 190) (M' := M1) j1 j2 (fun x hx => by rw [Nat.zero_add]; exact a1 x hx)).z
    refine vc_go hG 60 (B := bX10_back) rfl ?_
    refine And.intro rfl ?_
    refine And.intro rfl (Exists.intro _ (And.intro rfl ?_))
    refine And.intro (Or.inl rfl) (Exists.intro 0 (And.intro rfl (And.intro (show 0 < 57 by decide) ?_)))
    refine h.go (e1.trans (cit_y e9)) (by rw [upM_a (by decide)]; exact r1.1) ⟨r1.keep (upM_ne (by decide)), j2, c3.keep (by rw [upM_k (by decide), a2 187 (by decide)]) (by rw [upM_ne (by decide), a2 188 (by decide)]), ⟨upM_eq, Nat.zero_le _, fun k hk => absurd hk (Nat.not_lt_zero k)⟩, c5.keep (by rw [upM_ne (by decide), a2 193 (by decide)]) (by rw [upM_ne (by decide), a2 192 (by decide)]), c6.keep (by rw [upM_k (by decide), a2 187 (by decide)]) (by rw [upM_ne (by decide), a2 195 (by decide)]) (by rw [upM_ne (by decide), a2 196 (by decide)])⟩ (frM.o (fun a ha => by rw [upM_ne (by omega), a2 a (by omega)]; exact upM_ne (by omega)))
theorem y_sees (hG : GOK Γ) (hc : MR M S) {m r : Int} (h : OutM Q L M (fSees S m r)) : wp Γ mX10_sees 0 [some (VR 187), some (VI m), some (VI r)] [] 0 0 (W0 L) M Q := by
  have hc0 := hc.th
  have f0 := frM_th M
  obtain ⟨c1, c2, c3, c4, c5, c6⟩ := id hc0
  obtain ⟨t1, t2, t3⟩ := id c6
  refine vc_go hG 80 (B := bX10_sees) rfl ?_
  refine And.intro rfl ?_
  refine m_in hG (fun z => ?_) (fun z => And.intro (fun c => h.go (cit_n (fun x => z x.1)) rfl hc0 f0) (fun c => absurd rfl c))
  refine And.intro (fun c => absurd c (by decide)) (fun c => ?_)
  refine And.intro (by omega) ?_
  refine m_in hG (fun z2 => ?_) (fun z2 => And.intro (fun c => absurd rfl c) (fun c => h.go (cit_n (fun x => z2 (by omega))) rfl hc0 f0))
  refine And.intro (fun c => ?_) (fun c => absurd c (by decide))
  have e1 : fSees S m r = _ := cit_y ⟨z, z2.1, by omega⟩
  refine And.intro rfl (And.intro (fun y => ?_) (fun y => h.go (e1.trans (cit_n (by omega))) rfl hc0 f0))
  have hn : su S < 6 := by omega
  refine And.intro rfl (Exists.intro _ (And.intro rfl (And.intro rfl ?_)))
  refine And.intro rfl (Exists.intro (su S) (And.intro t1 (And.intro (show su S < 6 from hn) ?_)))
  refine And.intro rfl (Exists.intro _ (And.intro rfl (And.intro rfl ?_)))
  refine And.intro rfl (Exists.intro (su S) (And.intro (by rw [upM_a (by decide)]; exact t1) (And.intro (show su S < 6 from hn) ?_)))
  refine And.intro rfl (And.intro ?_ (And.intro rfl (And.intro rfl ?_)))
  · rw [upM_a (by decide), upM_a (by decide), t1]; omega
  refine h.go (e1.trans (cit_y hn)) ?_ ⟨c1.keep (by rw [upM_ne (by decide), upM_ne (by decide), upM_ne (by decide)]), c2, c3.keep (by rw [upM_k (by decide), upM_a (by decide), upM_a (by decide)]) (by rw [upM_ne (by decide), upM_ne (by decide), upM_ne (by decide)]), c4.keep (by rw [upM_k (by decide), upM_a (by decide), upM_a (by decide)]) (by rw [upM_ne (by decide), upM_ne (by decide), upM_ne (by decide)]), c5.keep (by rw [upM_ne (by decide), upM_ne (by decide), upM_ne (by decide)]) (by rw [upM_ne (by decide), upM_ne (by decide), upM_ne (by decide)]), ⟨?_, by show su S + 1 ≤ 6; omega, fun k hk => ?_⟩⟩ (frM.o (fun a ha => by rw [upM_ne (by omega), upM_ne (by omega), upM_ne (by omega)]; exact upM_ne (by omega)))
  · rw [upM_eq, upM_a (by decide), upM_a (by decide), t1]
  · rw [upM_eq, upM_a (by decide), upM_a (by decide), t1]; rfl
  · have hk : k < su S + 1 := hk
    show _ = ((upN (sM S) (su S) m.toNat k : Nat) : Int) ∧ _ = ((upN (sR S) (su S) r.toNat k : Nat) : Int) ∧ 2 ≤ upN (sM S) (su S) m.toNat k ∧ upN (sM S) (su S) m.toNat k ≤ 9 ∧ upN (sR S) (su S) r.toNat k < upN (sM S) (su S) m.toNat k
    by_cases q : k = su S
    · subst q
      rw [upM_a (by decide), upM_a (by decide), upM_eq, upM_a (by decide), upM_eq, upN_eq, upN_eq]
      omega
    · have t4 := t3 k (by omega)
      rw [upM_a (by decide), upM_a (by decide)] at t4
      rw [upM_a (by decide), upM_a (by decide), upM_k q, upM_a (by decide), upM_a (by decide), upM_k q, upM_a (by decide), upM_a (by decide), upN_ne q, upN_ne q]
      exact t4
end Mod
