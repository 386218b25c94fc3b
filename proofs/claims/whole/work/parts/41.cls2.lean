/-! ===== the class: what is near, plans, digits ===== -/
def OutR (Q : QT) (L : Nat) (M : MM) (S : ST) (R : Int → Prop) : Prop := ∀ r M', R r → CR M' S → frC M M' → Q (some (VI r)) (W0 L) M'
def nearR (G : GT) (v w r : Int) : Prop := (¬ (0 ≤ v ∧ inB w 1) ∧ r = -1) ∨ ((0 ≤ v ∧ inB w 1) ∧ ((w = 0 ∧ r = (cP (fun e => v < e ∧ isNr G e) 1024 : Nat)) ∨ (w = 1 ∧ isLst (fun e => v < e ∧ isNr G e) r)))
theorem nearR_u {G : GT} {v w r r' : Int} (h : nearR G v w r) (h' : nearR G v w r') : r = r' := by
  rcases h with ⟨a1, a2⟩ | ⟨a1, ⟨a2, a3⟩ | ⟨a2, a3⟩⟩ <;> rcases h' with ⟨b1, b2⟩ | ⟨b1, ⟨b2, b3⟩ | ⟨b2, b3⟩⟩ <;> first | omega | contradiction | exact isLst_u a3 b3
def selW (w : Int) (p q s f : Nat) : Int := if w = 0 then (p : Int) else if w = 1 then (q : Int) else if w = 2 then (s : Int) else (f : Int)
def byR (G : GT) (v w r : Int) : Prop := (¬ (isOddN v ∧ inB w 3) ∧ r = -1) ∨ ((isOddN v ∧ inB w 3) ∧ ((¬ isNr G v.toNat ∧ r = -9) ∨ (isNr G v.toNat ∧ ∃ p q s f, byW G v.toNat p q s f ∧ r = selW w p q s f)))
theorem byR_u {G : GT} (hw : WFG G) {v w r r' : Int} (h : byR G v w r) (h' : byR G v w r') : r = r' := by
  rcases h with ⟨a1, a2⟩ | ⟨a1, ⟨a2, a3⟩ | ⟨a2, p, q, s, f, a3, a4⟩⟩ <;> rcases h' with ⟨b1, b2⟩ | ⟨b1, ⟨b2, b3⟩ | ⟨b2, p', q', s', f', b3, b4⟩⟩ <;> first | omega | contradiction | skip
  obtain ⟨e1, e2, e3, e4⟩ := byW_u hw a3 b3
  subst e1 e2 e3 e4
  rw [a4, b4]
def twoR (G : GT) (v r : Int) : Prop := (¬ isOddN v ∧ r = -1) ∨ (isOddN v ∧ isTwo G v.toNat r)
theorem twoR_u {G : GT} {v r r' : Int} (h : twoR G v r) (h' : twoR G v r') : r = r' := by
  rcases h with ⟨a1, a2⟩ | ⟨a1, a2⟩ <;> rcases h' with ⟨b1, b2⟩ | ⟨b1, b2⟩ <;> first | omega | contradiction | exact isTwo_u a2 b2
def leastR (v r : Int) : Prop := (¬ (1 ≤ v ∧ v ≤ 255) ∧ r = -1) ∨ ((1 ≤ v ∧ v ≤ 255) ∧ isFew (odp v.toNat) r)
theorem leastR_u {v r r' : Int} (h : leastR v r) (h' : leastR v r') : r = r' := by
  rcases h with ⟨a1, a2⟩ | ⟨a1, a2⟩ <;> rcases h' with ⟨b1, b2⟩ | ⟨b1, b2⟩ <;> first | omega | contradiction | exact isFew_u a2 b2
noncomputable def selP (G H : GT) (k : Int) : Int := if k = -2 then (qn H : Int) - qn G else if k = -1 then (nMt H (qm H) : Int) else if k + qn G < qn H then (qV H (qn G + 1 + k.toNat) : Int) else -9
def planR (G : GT) (k r : Int) : Prop := (k < -2 ∧ r = -1) ∨ (-2 ≤ k ∧ ∃ H, isPl G H ∧ r = selP G H k)
theorem planR_u {G : GT} (hw : WFG G) {k r r' : Int} (h : planR G k r) (h' : planR G k r') : r = r' := by
  rcases h with ⟨a1, a2⟩ | ⟨a1, H, a2, a3⟩ <;> rcases h' with ⟨b1, b2⟩ | ⟨b1, H', b2, b3⟩ <;> first | omega | skip
  have e := isPl_u hw a2 b2
  subst e
  rw [a3, b3]
def unsR (S : ST) (w r : Int) : Prop := (¬ inB w 1 ∧ r = -1) ∨ (inB w 1 ∧ ((w = 0 ∧ r = (cP (UN (sG S) (su S) (sM S) (sR S)) 1024 : Nat)) ∨ (w = 1 ∧ isLst (UN (sG S) (su S) (sM S) (sR S)) r)))
theorem unsR_u {S : ST} {w r r' : Int} (h : unsR S w r) (h' : unsR S w r') : r = r' := by
  rcases h with ⟨a1, a2⟩ | ⟨a1, ⟨a2, a3⟩ | ⟨a2, a3⟩⟩ <;> rcases h' with ⟨b1, b2⟩ | ⟨b1, ⟨b2, b3⟩ | ⟨b2, b3⟩⟩ <;> first | omega | contradiction | exact isLst_u a3 b3
noncomputable def fNext (S : ST) : Int × ST := cit (1 < cP (UN (sG S) (su S) (sM S) (sR S)) 1024) ((ak (UN (sG S) (su S) (sM S) (sR S)) 8).1, S) (-9, S)
section Cls
variable {Γ : GG} {L : Nat} {M : MM} {Q : QT} {S : ST}
theorem c_fresh (hG : GOK Γ) (hc : CR M S) (h : ∀ M', CR M' S → NrF M' 153 (sG S) → (∀ a, a ≠ 1 → a ≠ 154 → a ≠ 155 → M' a = M a) → M' 1 10 = M 1 10 → Q (some (VR 153)) (W0 L) M') : wp Γ mX9_freshNear 0 [some (VR 1)] [] 0 0 (W0 L) M Q := by
  obtain ⟨c1, c2, c3, c4, c5, c6, ⟨G7, c7, c7'⟩, ⟨G8, c8, c8'⟩, c9, c10⟩ := id hc
  refine vc_go hG 60 (B := bX9_freshNear) rfl ?_
  refine And.intro rfl (And.intro (fun y => ?_) (fun y => ?_))
  · refine And.intro rfl (Exists.intro _ (And.intro rfl ?_))
    rcases c9 with ⟨-, t⟩ | z
    · exact h M hc t (fun _ _ _ _ => rfl) rfl
    · omega
  · refine And.intro rfl (Exists.intro _ (And.intro rfl (And.intro rfl (Exists.intro _ (And.intro rfl (And.intro rfl ?_))))))
    refine c_build hG (W0_n153 L) (W0_g2 L) (by omega) c1 c2 (fun M1 t f0 => ?_)
    have f : ∀ a, a ≠ 1 → a ≠ 154 → a ≠ 155 → upM M1 1 9 0 a = M a := fun a a1 a2 a3 => by rw [upM_ne a1, f0 a a2 a3]
    refine And.intro rfl (And.intro (Or.inl rfl) (And.intro rfl (Exists.intro _ (And.intro rfl ?_))))
    have t' : NrF (upM M1 1 9 0) 153 (sG S) := NrT.keep t (upM_ne (by decide)) (upM_ne (by decide))
    have e10 : upM M1 1 9 0 1 10 = M 1 10 := by rw [upM_k (by decide), f0 1 (by decide) (by decide)]
    refine h _ ⟨c1.keep (fun a a1 a2 => f a (by omega) (by omega) (by omega)), c2, c3.keep (by rw [f 22 (by omega) (by omega) (by omega)]) (f 23 (by omega) (by omega) (by omega)), c4.keep (fun a a1 a2 => f a (by omega) (by omega) (by omega)), c5.fr (fun a a1 a2 => f a (by omega) (by omega) (by omega)), c6.keep (fun a a1 a2 => f a (by omega) (by omega) (by omega)), ⟨G7, c7.keep (fun a a1 a2 => f a (by omega) (by omega) (by omega)), c7'⟩, ⟨G8, c8.keep (fun a a1 a2 => f a (by omega) (by omega) (by omega)), c8'⟩, Or.inl ⟨upM_eq, t'⟩, ?_⟩ t' f e10
    rw [e10]
    refine c10.imp (fun z => ⟨z.1, ?_⟩) id
    obtain ⟨-, H, z1, z2, z3, z4⟩ := z
    exact ⟨H, z1, z2, z3.keep (fun a a1 a2 => f a (by omega) (by omega) (by omega)), by rw [f 156 (by omega) (by omega) (by omega)]; exact z4⟩
theorem fr3 {M M' : MM} (h : ∀ a, a ≠ 1 → a ≠ 154 → a ≠ 155 → M' a = M a) : frC M M' := fun a ha => h a (by omega) (by omega) (by omega)
theorem x_near (hG : GOK Γ) (hc : CR M S) {v w : Int} (h : OutR Q L M S (nearR (sG S) v w)) : wp Γ mX9_near 0 [some (VR 1), some (VI v), some (VI w)] [] 0 0 (W0 L) M Q := by
  refine vc_go hG 60 (B := bX9_near) rfl ?_
  refine And.intro (fun y => h _ M (Or.inl ⟨fun z => by omega, rfl⟩) hc (frC_r M)) (fun y1 => ?_)
  refine And.intro (fun y => h _ M (Or.inl ⟨fun z => by have := z.2.1; omega, rfl⟩) hc (frC_r M)) (fun y2 => ?_)
  refine And.intro (fun y3 => ?_) (fun y => h _ M (Or.inl ⟨fun z => by have := z.2.2; omega, rfl⟩) hc (frC_r M))
  refine And.intro rfl ?_
  refine c_fresh hG hc (fun M1 hc1 t f _ => ?_)
  refine And.intro (fun z => ?_) (fun z => ?_)
  · refine And.intro rfl ?_
    refine c_leastAbove hG (W0_n153 L) t (fun r hr => ?_)
    exact h r M1 (Or.inr ⟨⟨y1, y2, y3⟩, Or.inr ⟨by omega, hr⟩⟩) hc1 (fr3 f)
  · refine And.intro rfl ?_
    refine c_howMany hG (W0_n153 L) t ?_
    exact h _ M1 (Or.inr ⟨⟨y1, y2, y3⟩, Or.inl ⟨by omega, rfl⟩⟩) hc1 (fr3 f)
theorem x_two (hG : GOK Γ) (hc : CR M S) {v : Int} (h : OutR Q L M S (twoR (sG S) v)) : wp Γ mX9_two 0 [some (VR 1), some (VI v)] [] 0 0 (W0 L) M Q := by
  refine vc_go hG 60 (B := bX9_two) rfl ?_
  refine c_isOddNumber hG (fun ho => ?_) (fun ho => ?_)
  · refine And.intro (fun y => ?_) (fun y => absurd y (by decide))
    refine And.intro rfl ?_
    refine c_fresh hG hc (fun M1 hc1 t f _ => ?_)
    refine And.intro rfl (Exists.intro _ (And.intro rfl (And.intro rfl ?_)))
    obtain ⟨o1, o2, o3⟩ := id ho
    refine c_bridge hG (W0_n153 L) (W0_g2 L) t hc1.1 hc1.2.1 (v := v.toNat) (by omega) (by omega) (fun r hr => ?_)
    exact h r M1 (Or.inr ⟨ho, hr⟩) hc1 (fr3 f)
  · exact And.intro (fun y => absurd rfl y) (fun y => h _ M (Or.inl ⟨ho, rfl⟩) hc (frC_r M))
theorem x_least (hG : GOK Γ) (hc : CR M S) {v : Int} (h : OutR Q L M S (leastR v)) : wp Γ mX9_least 0 [some (VR 1), some (VI v)] [] 0 0 (W0 L) M Q := by
  obtain ⟨c1, c2, c3, c4, c5, c6, ⟨G7, c7, c7'⟩, c8, c9, c10⟩ := id hc
  refine vc_go hG 60 (B := bX9_least) rfl ?_
  refine And.intro (fun y => h _ M (Or.inl ⟨fun z => by omega, rfl⟩) hc (frC_r M)) (fun y1 => ?_)
  refine And.intro (fun y2 => ?_) (fun y => h _ M (Or.inl ⟨fun z => by omega, rfl⟩) hc (frC_r M))
  refine And.intro rfl (Exists.intro _ (And.intro rfl ?_))
  refine c_oddPart hG (n := v.toNat) (by omega) (by omega) ?_
  refine And.intro rfl ?_
  have o1 : odp v.toNat % 2 = 1 := odp_odd (by omega) (by omega)
  have o2 := odp_le v.toNat
  refine c_fewest hG rfl ⟨o1, by omega⟩ c8 (fun r M1 hr g8 f => ?_)
  exact h r M1 (Or.inr ⟨⟨y1, y2⟩, hr⟩) ⟨c1.keep (fun a a1 a2 => f a (by omega)), c2, c3.keep (by rw [f 22 (by omega)]) (f 23 (by omega)), c4.keep (fun a a1 a2 => f a (by omega)), c5.fr (fun a a1 a2 => f a (by omega)), c6.keep (fun a a1 a2 => f a (by omega)), ⟨G7, c7.keep (fun a a1 a2 => f a (by omega)), c7'⟩, g8, n9k c9 (f 1 (by omega)) (f 154 (by omega)) (f 155 (by omega)), p10k c10 (f 1 (by omega)) (fun a a1 a2 => f a (by omega))⟩ (fun a ha => f a (by omega))
theorem x_plan2 (hG : GOK Γ) (hc : CR M S) {k : Int} (hk : -2 ≤ k) {H : GT} (p1 : isPl (sG S) H) (p2 : WFG H) (p3 : GrR M 157 H) (p4 : M 156 2 = qn (sG S)) (M0 : MM) (hf : frC M0 M) (h : OutR Q L M0 S (planR (sG S) k)) : wp Γ mX9_plan 35 [some (VR 1), some (VI k)] [] 0 0 (W0 L) M Q := by
  have n12 := hc.2.1.1
  have m12 := p2.1
  have fin : Q (some (VI (selP (sG S) H k))) (W0 L) M := h _ M (Or.inr ⟨hk, H, p1, rfl⟩) hc hf
  unfold selP at fin
  refine vc_go hG 60 (B := bX9_plan) rfl ?_
  refine And.intro (fun y => ?_) (fun y => ?_)
  · rw [if_neg y] at fin
    refine And.intro (fun y2 => ?_) (fun y2 => ?_)
    · rw [if_neg y2] at fin
      refine And.intro rfl (Exists.intro _ (And.intro rfl (And.intro rfl ?_)))
      refine c_pvalue hG p3 p2 p4 n12 (fun j ej hj => ?_) (fun hn => ?_)
      · rw [if_pos (by omega), show k.toNat = j by omega] at fin
        exact fin
      · rw [if_neg (by omega)] at fin
        exact fin
    · rw [if_pos y2] at fin
      refine And.intro rfl (Exists.intro _ (And.intro rfl (And.intro rfl (Exists.intro _ (And.intro rfl (And.intro rfl ?_))))))
      exact c_notMet hG (W0_g157 L) p3 p2 fin
  · rw [if_pos y] at fin
    refine And.intro rfl (Exists.intro _ (And.intro rfl (And.intro rfl ?_)))
    exact c_made hG p3 p2 p4 n12 fin
theorem x_plan (hG : GOK Γ) (hc : CR M S) {k : Int} (h : OutR Q L M S (planR (sG S) k)) : wp Γ mX9_plan 0 [some (VR 1), some (VI k)] [] 0 0 (W0 L) M Q := by
  refine vc_goS hG 60 [35] (B := bX9_plan) rfl ?_
  refine And.intro (fun y1 => ?_) (fun y => h _ M (Or.inl ⟨by omega, rfl⟩) hc (frC_r M))
  have c10 := hc.2.2.2.2.2.2.2.2.2
  refine And.intro rfl (And.intro (fun y => ?_) (fun y => ?_))
  · rcases c10 with ⟨-, H, p1, p2, p3, p4⟩ | z
    · exact x_plan2 hG hc y1 p1 p2 p3 p4 M (frC_r M) h
    · omega
  · refine And.intro rfl (Exists.intro _ (And.intro rfl (And.intro rfl (Exists.intro _ (And.intro rfl (And.intro rfl ?_))))))
    refine c_fresh hG hc (fun M1 hc1 t f0 e10 => ?_)
    obtain ⟨c1, c2, c3, c4, c5, c6, ⟨G7, c7, c7'⟩, ⟨G8, c8, c8'⟩, c9, -⟩ := id hc1
    refine And.intro rfl ?_
    refine c_make hG c1 c2 t (fun H M2 p1 p2 p3 p4 f => ?_)
    refine And.intro rfl (And.intro (Or.inl rfl) ?_)
    have u : ∀ a, a ≠ 1 → upM M2 1 10 0 a = M2 a := fun a ha => upM_ne ha
    have f2 : ∀ a, a ≠ 1 → (a < 156 ∨ 169 < a) → upM M2 1 10 0 a = M1 a := fun a ha hb => by rw [u a ha, f a hb]
    have p3' : GrR (upM M2 1 10 0) 157 H := p3.keep (fun a a1 a2 => u a (by omega))
    have p4' : upM M2 1 10 0 156 2 = qn (sG S) := by rw [u 156 (by decide)]; exact p4
    refine x_plan2 hG ⟨c1.keep (fun a a1 a2 => f2 a (by omega) (by omega)), c2, c3.keep (by rw [f2 22 (by omega) (by omega)]) (f2 23 (by omega) (by omega)), c4.keep (fun a a1 a2 => f2 a (by omega) (by omega)), c5.fr (fun a a1 a2 => f2 a (by omega) (by omega)), c6.keep (fun a a1 a2 => f2 a (by omega) (by omega)), ⟨G7, c7.keep (fun a a1 a2 => f2 a (by omega) (by omega)), c7'⟩, ⟨G8, c8.keep (fun a a1 a2 => f2 a (by omega) (by omega)), c8'⟩, ?_, Or.inl ⟨upM_eq, H, p1, p2, p3', p4'⟩⟩ y1 p1 p2 p3' p4' M (fun a ha => by rw [f2 a (by omega) (by omega), f0 a (by omega) (by omega) (by omega)]) h
    rw [upM_k (by decide), f 1 (by decide)]
    exact c9.imp (fun z => ⟨z.1, NrT.keep z.2 (f2 154 (by decide) (by decide)) (f2 155 (by decide) (by decide))⟩) id
theorem x_unseen (hG : GOK Γ) (hc : CR M S) {w : Int} (h : OutR Q L M S (unsR S w)) : wp Γ mX9_unseen 0 [some (VR 1), some (VI w)] [] 0 0 (W0 L) M Q := by
  refine vc_go hG 60 (B := bX9_unseen) rfl ?_
  refine And.intro (fun y => h _ M (Or.inl ⟨fun z => by have := z.1; omega, rfl⟩) hc (frC_r M)) (fun y1 => ?_)
  refine And.intro (fun y2 => ?_) (fun y => h _ M (Or.inl ⟨fun z => by have := z.2; omega, rfl⟩) hc (frC_r M))
  refine And.intro rfl ?_
  refine c_fresh hG hc (fun M1 hc1 t f _ => ?_)
  have c6 := hc1.2.2.2.2.2.1
  refine And.intro (fun z => ?_) (fun z => ?_)
  · refine And.intro rfl (Exists.intro _ (And.intro rfl (And.intro rfl ?_)))
    refine c_snLow hG c6 (W0_n153 L) t (fun r hr => ?_)
    exact h r M1 (Or.inr ⟨⟨y1, y2⟩, Or.inr ⟨by omega, hr⟩⟩) hc1 (fr3 f)
  · refine And.intro rfl (Exists.intro _ (And.intro rfl (And.intro rfl ?_)))
    refine c_snMany hG c6 (W0_n153 L) t ?_
    exact h _ M1 (Or.inr ⟨⟨y1, y2⟩, Or.inl ⟨by omega, rfl⟩⟩) hc1 (fr3 f)
theorem x_next (hG : GOK Γ) (hc : CR M S) (h : Out Q L M (fNext S)) : wp Γ mX9_next 0 [some (VR 1)] [] 0 0 (W0 L) M Q := by
  refine vc_go hG 60 (B := bX9_next) rfl ?_
  refine And.intro rfl (Exists.intro _ (And.intro rfl (And.intro rfl ?_)))
  refine c_fresh hG hc (fun M1 hc1 t f _ => ?_)
  obtain ⟨c1, c2, c3, c4, c5, c6, ⟨G7, c7, c7'⟩, ⟨G8, c8, c8'⟩, c9, c10⟩ := id hc1
  refine And.intro rfl ?_
  refine c_ask hG c6 (W0_n153 L) (by omega) t (fun z => ?_) (fun z M2 f2 => ?_)
  · exact h.go (cit_n (by omega)) rfl hc1 (fr3 f)
  · refine h.go (cit_y z) rfl ⟨c1.keep (fun a a1 a2 => f2 a (by omega)), c2, c3.keep (by rw [f2 22 (by omega)]) (f2 23 (by omega)), c4.keep (fun a a1 a2 => f2 a (by omega)), c5.fr (fun a a1 a2 => f2 a (by omega)), c6.keep (fun a a1 a2 => f2 a (by omega)), ⟨G7, c7.keep (fun a a1 a2 => f2 a (by omega)), c7'⟩, ⟨G8, c8.keep (fun a a1 a2 => f2 a (by omega)), c8'⟩, n9k c9 (f2 1 (by omega)) (f2 154 (by omega)) (f2 155 (by omega)), p10k c10 (f2 1 (by omega)) (fun a a1 a2 => f2 a (by omega))⟩ (fun a ha => by rw [f2 a (by omega), f a (by omega) (by omega) (by omega)])
end Cls
