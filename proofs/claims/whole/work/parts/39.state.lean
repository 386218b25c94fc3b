/-! ===== the class: what is there ===== -/
abbrev ST : Type := GT × (Nat × (Nat → Nat)) × (Nat × (Nat → GT)) × ((Nat → Nat) × (Nat → GT)) × (Nat × (Nat → Nat) × (Nat → Nat))
abbrev sG (S : ST) : GT := S.1
abbrev sn (S : ST) : Nat := S.2.1.1
abbrev sT (S : ST) : Nat → Nat := S.2.1.2
abbrev sk (S : ST) : Nat := S.2.2.1.1
abbrev sH (S : ST) : Nat → GT := S.2.2.1.2
abbrev sx (S : ST) : Nat → Nat := S.2.2.2.1.1
abbrev sI (S : ST) : Nat → GT := S.2.2.2.1.2
abbrev su (S : ST) : Nat := S.2.2.2.2.1
abbrev sM (S : ST) : Nat → Nat := S.2.2.2.2.2.1
abbrev sR (S : ST) : Nat → Nat := S.2.2.2.2.2.2
def CR (M : MM) (S : ST) : Prop := GrR M 2 (sG S) ∧ WFG (sG S) ∧ TxR M (sn S) (sT S) ∧ HsR M (sk S) (sH S) ∧ ImR M (sx S) (sI S) ∧ SnR M (su S) (sM S) (sR S) ∧ (∃ G, GrR M 12 G ∧ WFG G) ∧ (∃ G, GrR M 171 G ∧ WFG G) ∧
  ((M 1 9 = 0 ∧ NrF M 153 (sG S)) ∨ M 1 9 = 1) ∧ ((M 1 10 = 0 ∧ ∃ H, isPl (sG S) H ∧ WFG H ∧ GrR M 157 H ∧ M 156 2 = qn (sG S)) ∨ M 1 10 = 1)
def frC (M M' : MM) : Prop := ∀ a, a < 1 ∨ 186 < a → M' a = M a
theorem frC.t {M M' M2 : MM} (h1 : frC M M') (h2 : frC M' M2) : frC M M2 := fun a ha => (h2 a ha).trans (h1 a ha)
theorem frC_r (M : MM) : frC M M := fun _ _ => rfl
def Out (Q : QT) (L : Nat) (M : MM) (rs : Int × ST) : Prop := ∀ M', CR M' rs.2 → frC M M' → Q (some (VI rs.1)) (W0 L) M'
theorem Out.go {Q : QT} {L : Nat} {M M' : MM} {rs : Int × ST} {r : Int} {S' : ST} (h : Out Q L M rs) (e : rs = (r, S')) {x : Int} (hx : x = r) (hc : CR M' S') (hf : frC M M') : Q (some (VI x)) (W0 L) M' := by
  subst e hx
  exact h M' hc hf
theorem ImR.fr {M M' : MM} {ik : Nat → Nat} {Im : Nat → GT} (h : ImR M ik Im) (hf : ∀ a, 128 ≤ a → a ≤ 148 → M' a = M a) : ImR M' ik Im := by
  intro i hi
  obtain ⟨h1, h2, h3⟩ := h i hi
  refine ⟨by rw [hf 128 (by omega) (by omega)]; exact h1, h2, fun z => ⟨(h3 z).1.keep (fun a a1 a2 => hf a (by omega) (by omega)), (h3 z).2⟩⟩
/-- all but now, told, text, history, and what was found of it -/
theorem GrR_lim {M : MM} {g : Nat} {G : GT} (hr : GrR M g G) {l : Nat} {x : Int} (hx : x = l) : GrR (upM M g 4 x) g (limG G l) := by
  obtain ⟨r1, r2, r3, r4, r5, r6, r7⟩ := hr
  refine ⟨by rw [upM_k (by decide)]; exact r1, by rw [upM_k (by decide)]; exact r2, by rw [upM_eq]; exact hx, ?_⟩
  rw [upM_ne (by omega), upM_ne (by omega), upM_ne (by omega), upM_ne (by omega), upM_ne (by omega), upM_ne (by omega), upM_ne (by omega), upM_ne (by omega)]
  exact ⟨r4, r5, r6, r7⟩
theorem GrR_tk {M : MM} {g : Nat} {G : GT} (hr : GrR M g G) {x : Int} (hx : x = ((qn G - 1 : Nat) : Int)) : GrR (upM M g 2 x) g (tkG G) := by
  obtain ⟨r1, r2, r3, r4, r5, r6, r7⟩ := hr
  refine ⟨by rw [upM_eq]; exact hx, by rw [upM_k (by decide)]; exact r2, by rw [upM_k (by decide)]; exact r3, ?_⟩
  rw [upM_ne (by omega), upM_ne (by omega), upM_ne (by omega), upM_ne (by omega), upM_ne (by omega), upM_ne (by omega), upM_ne (by omega), upM_ne (by omega)]
  exact ⟨fun k hk => r4 k (by have : k ≤ qn G - 1 := hk; omega), r5, fun k hk => r6 k (by have : k < qn G - 1 := hk; omega), r7⟩
def push (S : ST) (G' : GT) : ST := (G', S.2.1, (min (sk S + 1) 10, csH (sG S) (sH S)), S.2.2.2)
theorem CR_push {M M1 M2 : MM} {S : ST} {G' : GT} (hc : CR M S) (h1 : HsR M1 (min (sk S + 1) 10) (csH (sG S) (sH S))) (f1 : ∀ a, a < 24 ∨ 125 < a → M1 a = M a) (g : GrR M2 2 G') (hw : WFG G') (f2 : frG M1 M2 2) : CR (upM (upM M2 1 9 1) 1 10 1) (push S G') ∧ frC M (upM (upM M2 1 9 1) 1 10 1) := by
  obtain ⟨c1, c2, c3, c4, c5, c6, ⟨G7, c7, c7'⟩, ⟨G8, c8, c8'⟩, c9, c10⟩ := hc
  have u : ∀ a, a ≠ 1 → upM (upM M2 1 9 1) 1 10 1 a = M2 a := fun a ha => by rw [upM_ne ha, upM_ne ha]
  have f : ∀ a, a ≠ 1 → 11 < a → (a < 24 ∨ 125 < a) → upM (upM M2 1 9 1) 1 10 1 a = M a := fun a ha hb hd => by rw [u a ha, f2 a (by omega), f1 a hd]
  refine ⟨⟨g.keep (fun a a1 a2 => u a (by omega)), hw, ?_, ?_, ?_, ?_, ⟨G7, c7.keep (fun a a1 a2 => f a (by omega) (by omega) (by omega)), c7'⟩, ⟨G8, c8.keep (fun a a1 a2 => f a (by omega) (by omega) (by omega)), c8'⟩, Or.inr (by rw [upM_k (by decide), upM_eq]), Or.inr upM_eq⟩, fun a ha => ?_⟩
  · exact c3.keep (by rw [f 22 (by omega) (by omega) (by omega)]) (f 23 (by omega) (by omega) (by omega))
  · exact h1.keep (fun a a1 a2 => by rw [u a (by omega), f2 a (by omega)])
  · exact c5.fr (fun a a1 a2 => f a (by omega) (by omega) (by omega))
  · exact c6.keep (fun a a1 a2 => f a (by omega) (by omega) (by omega))
  · by_cases q : a = 0
    · subst q
      rw [u 0 (by decide), f2 0 (by decide), f1 0 (by decide)]
    · exact f a (by omega) (by omega) (by omega)
def inB (x : Int) (n : Nat) : Prop := 0 ≤ x ∧ x ≤ n
noncomputable def fAdds (S : ST) (p s q f : Int) : Int × ST := cit (inB p (qn (sG S)) ∧ inB q (qn (sG S)) ∧ inB s 9 ∧ inB f 3)
  (cit (mayB (sG S) p.toNat s.toNat q.toNat f.toNat) (cit (qn (sG S) < 12) ((odp (cms (qV (sG S) p.toNat) s.toNat (qV (sG S) q.toNat) f.toNat) : Nat), push S (addG (sG S) p.toNat s.toNat q.toNat f.toNat)) (-3, S)) (-2, S)) (-1, S)
noncomputable def fTakes (S : ST) : Int × ST := cit (qn (sG S) = 0) (-2, S) ((qV (sG S) (qn (sG S)) : Nat), push S (tkG (sG S)))
def plc (C : Nat → Nat) (c : Nat) : Nat → Nat
  | 0 => 0
  | m + 1 => if plc C c m < m then plc C c m else if C m = c then m else m + 1
theorem plc_no {C : Nat → Nat} {c : Nat} : ∀ {m : Nat}, (∀ k, k < m → C k ≠ c) → plc C c m = m
  | 0, _ => rfl
  | m + 1, h => by
    have := plc_no (C := C) (c := c) (m := m) (fun k hk => h k (by omega))
    show (if plc C c m < m then plc C c m else if C m = c then m else m + 1) = m + 1
    rw [if_neg (by omega), if_neg (h m (by omega))]
theorem plc_eq {C : Nat → Nat} {c k : Nat} : ∀ {m : Nat}, k < m → C k = c → (∀ i, i < m → C i = c → i = k) → plc C c m = k
  | 0, h, _, _ => by omega
  | m + 1, h, hk, hu => by
    show (if plc C c m < m then plc C c m else if C m = c then m else m + 1) = k
    by_cases q : k = m
    · subst q
      have := plc_no (C := C) (c := c) (m := k) (fun i hi e => by have := hu i (by omega) e; omega)
      rw [if_neg (by omega), if_pos hk]
    · have := plc_eq (C := C) (c := c) (k := k) (m := m) (by omega) hk (fun i hi => hu i (by omega))
      rw [if_pos (by omega)]
      exact this
noncomputable def fWish (S : ST) (c : Int) : Int × ST := cit (1 ≤ c ∧ c ≤ 1023) (cit (plc (qC (sG S)) c.toNat (qm (sG S)) < qm (sG S)) ((qm (sG S) : Int) - 1, push S (drpG (sG S) (plc (qC (sG S)) c.toNat (qm (sG S)))))
  (cit (qm (sG S) < 6) ((qm (sG S) : Int) + 1, push S (wshG (sG S) c.toNat)) (-3, S))) (-1, S)
noncomputable def fLim (S : ST) (l : Int) : Int × ST := cit (1 ≤ l ∧ l ≤ 9) (cit (((mxD (qD (sG S)) (qn (sG S) + 1) : Nat) : Int) ≤ l) ((qL (sG S) : Nat), push S (limG (sG S) l.toNat)) (-2, S)) (-1, S)
noncomputable def fUndo (S : ST) : Int × ST := cit (sk S = 0) (-2, S) ((sk S : Int) - 1, (sH S 0, S.2.1, (sk S - 1, fun i => sH S (i + 1)), S.2.2.2))
section Cls
variable {Γ : GG} {L : Nat} {M : MM} {Q : QT} {S : ST}
theorem c_changed (hG : GOK Γ) (h : Q none (W0 L) (upM (upM M 1 9 1) 1 10 1)) : wp Γ mX9_changed 0 [some (VR 1)] [] 0 0 (W0 L) M Q := by
  refine vc_go hG 60 (B := bX9_changed) rfl ?_
  exact And.intro rfl (And.intro (Or.inr rfl) (And.intro rfl (And.intro (Or.inr rfl) h)))
theorem x_adds (hG : GOK Γ) (hc : CR M S) {p s q f : Int} (h : Out Q L M (fAdds S p s q f)) : wp Γ mX9_adds 0 [some (VR 1), some (VI p), some (VI s), some (VI q), some (VI f)] [] 0 0 (W0 L) M Q := by
  have gl := W0_g2 L
  obtain ⟨c1, c2, -, c4, -⟩ := id hc
  have bad : ¬ (inB p (qn (sG S)) ∧ inB q (qn (sG S)) ∧ inB s 9 ∧ inB f 3) → Q (some (VI (-1))) (W0 L) M := fun z => h.go (cit_n z) rfl hc (frC_r M)
  refine vc_go hG 60 (B := bX9_adds) rfl ?_
  refine And.intro rfl (Exists.intro _ (And.intro rfl (And.intro rfl ?_)))
  refine c_isThere hG gl c1 (fun z1 => ?_) (fun z1 => And.intro (fun _ => bad (fun z => z1 z.1)) (fun c => absurd rfl c))
  refine And.intro (fun c => absurd c (by decide)) (fun c => ?_)
  refine And.intro rfl (Exists.intro _ (And.intro rfl (And.intro rfl ?_)))
  refine c_isThere hG gl c1 (fun z2 => ?_) (fun z2 => And.intro (fun _ => bad (fun z => z2 z.2.1)) (fun c => absurd rfl c))
  refine And.intro (fun c => absurd c (by decide)) (fun c => ?_)
  refine And.intro (fun y => bad (fun z => by have := z.2.2.1.1; omega)) (fun y3 => ?_)
  refine And.intro (fun y => bad (fun z => by have := z.2.2.1.2; omega)) (fun y4 => ?_)
  refine And.intro (fun y => bad (fun z => by have := z.2.2.2.1; omega)) (fun y5 => ?_)
  refine And.intro (fun y6 => ?_) (fun y => bad (fun z => by have := z.2.2.2.2; omega))
  have e1 : fAdds S p s q f = _ := cit_y ⟨z1, z2, ⟨y3, y4⟩, ⟨y5, by omega⟩⟩
  have ep : p = (p.toNat : Int) := by omega
  have es : s = (s.toNat : Int) := by omega
  have eq : q = (q.toNat : Int) := by omega
  have ef : f = (f.toNat : Int) := by omega
  have bp : p.toNat ≤ qn (sG S) := by omega
  have bq : q.toNat ≤ qn (sG S) := by omega
  have bs : s.toNat ≤ 9 := by omega
  have bf : f.toNat ≤ 3 := by omega
  refine And.intro rfl (Exists.intro _ (And.intro rfl (And.intro rfl ?_)))
  refine c_mayBe hG gl c1 c2 ep es eq ef bp bs bq bf (fun mb => ?_) (fun mb => And.intro (fun c => absurd rfl c) (fun c => h.go (e1.trans (cit_n mb)) rfl hc (frC_r M)))
  refine And.intro (fun c => ?_) (fun c => absurd c (by decide))
  have n1 := c1.1
  refine And.intro rfl (Exists.intro _ (And.intro rfl (And.intro rfl (And.intro (fun x => ?_) (fun x => h.go (e1.trans ((cit_y mb).trans (cit_n (by omega)))) rfl hc (frC_r M))))))
  have hn : qn (sG S) < 12 := by omega
  have e3 := e1.trans ((cit_y mb).trans (cit_y hn))
  refine And.intro rfl (Exists.intro _ (And.intro rfl (And.intro rfl (Exists.intro _ (And.intro rfl (And.intro rfl ?_))))))
  refine c_remember hG c4 c1 c2 (fun M1 h1 f1 => ?_)
  refine And.intro rfl (Exists.intro _ (And.intro rfl (And.intro rfl ?_)))
  refine c_append hG gl (c1.keep (fun a a1 a2 => f1 a (by omega))) c2 ep es eq ef bp bs bq bf hn mb.2.1 (fun M2 g1 g2 => ?_)
  refine And.intro rfl ?_
  have hw := addG_wf c2 bp bs bq bf hn mb
  have cp := CR_push hc h1 f1 g1 hw g2
  refine c_changed hG ?_
  refine And.intro rfl (Exists.intro _ (And.intro rfl (And.intro rfl (Exists.intro _ (And.intro rfl (And.intro rfl (And.intro rfl ?_)))))))
  refine c_value hG gl cp.1.1 hw (k := qn (sG S) + 1) cp.1.1.1 (Nat.le_refl _) ?_
  exact h.go e3 (by show ((upN _ _ _ _ : Nat) : Int) = _; rw [upN_eq]) cp.1 cp.2
theorem x_takes (hG : GOK Γ) (hc : CR M S) (h : Out Q L M (fTakes S)) : wp Γ mX9_takes 0 [some (VR 1)] [] 0 0 (W0 L) M Q := by
  have gl := W0_g2 L
  obtain ⟨c1, c2, -, c4, -⟩ := id hc
  have n1 := c1.1
  have n12 := c2.1
  refine vc_go hG 60 (B := bX9_takes) rfl ?_
  refine And.intro rfl (Exists.intro _ (And.intro rfl (And.intro rfl (And.intro (fun x => ?_) (fun x => h.go (cit_y (by omega)) rfl hc (frC_r M))))))
  have e3 : fTakes S = _ := cit_n (by omega)
  refine And.intro rfl (Exists.intro _ (And.intro rfl (And.intro rfl (Exists.intro _ (And.intro rfl (And.intro rfl ?_))))))
  refine c_remember hG c4 c1 c2 (fun M1 h1 f1 => ?_)
  have c1' : GrR M1 2 (sG S) := c1.keep (fun a a1 a2 => f1 a (by omega))
  refine And.intro rfl (Exists.intro _ (And.intro rfl (And.intro rfl (Exists.intro _ (And.intro rfl (And.intro rfl (And.intro rfl ?_)))))))
  refine c_value hG gl c1' c2 (k := qn (sG S)) c1'.1 (Nat.le_refl _) ?_
  refine And.intro rfl (Exists.intro _ (And.intro rfl (And.intro rfl (And.intro (by rw [c1'.1]; omega) (And.intro rfl ?_)))))
  refine And.intro rfl ?_
  have cp := CR_push hc h1 f1 (GrR_tk c1' (x := M1 2 2 - 1) (by rw [c1'.1]; omega)) (tkG_wf c2) (fun a ha => upM_ne (by omega))
  refine c_changed hG ?_
  exact h.go e3 rfl cp.1 cp.2
theorem x_wishes (hG : GOK Γ) (hc : CR M S) {c : Int} (h : Out Q L M (fWish S c)) : wp Γ mX9_wishes 0 [some (VR 1), some (VI c)] [] 0 0 (W0 L) M Q := by
  have gl := W0_g2 L
  obtain ⟨c1, c2, -, c4, -⟩ := id hc
  have m1 := c1.2.1
  have m6 := c2.2.1
  refine vc_go hG 60 (B := bX9_wishes) rfl ?_
  refine And.intro (fun y => h.go (cit_n (by omega)) rfl hc (frC_r M)) (fun y => ?_)
  refine And.intro (fun y2 => ?_) (fun y2 => h.go (cit_n (by omega)) rfl hc (frC_r M))
  have e1 : fWish S c = _ := cit_y ⟨y, y2⟩
  have ec : c = (c.toNat : Int) := by omega
  refine And.intro rfl (Exists.intro _ (And.intro rfl (And.intro rfl ?_)))
  refine c_placeOf hG gl c1 c2 ec (fun k hk ek => ?_) (fun hno => ?_)
  · have ep : plc (qC (sG S)) c.toNat (qm (sG S)) = k := plc_eq hk ek (fun i hi e => c2.2.2.2.2.2.2.2 i k hi hk (e.trans ek.symm))
    rw [ep] at e1
    have e2 := e1.trans (cit_y hk)
    refine And.intro (fun x => ?_) (fun x => by omega)
    refine And.intro rfl (Exists.intro _ (And.intro rfl (And.intro rfl (Exists.intro _ (And.intro rfl (And.intro rfl ?_))))))
    refine c_remember hG c4 c1 c2 (fun M1 h1 f1 => ?_)
    refine And.intro (fun x => ?_) (fun x => by omega)
    refine And.intro rfl (Exists.intro _ (And.intro rfl (And.intro rfl ?_)))
    refine c_dropWish hG gl (c1.keep (fun a a1 a2 => f1 a (by omega))) c2 rfl hk (fun M2 g1 g2 => ?_)
    have cp := CR_push hc h1 f1 g1 (drpG_wf c2 hk) g2
    refine And.intro rfl ?_
    refine c_changed hG ?_
    refine And.intro rfl (Exists.intro _ (And.intro rfl (And.intro rfl ?_)))
    exact h.go e2 (cp.1.1.2.1.trans (by show ((qm (sG S) - 1 : Nat) : Int) = _; omega)) cp.1 cp.2
  · have ep : plc (qC (sG S)) c.toNat (qm (sG S)) = qm (sG S) := plc_no hno
    rw [ep] at e1
    have e2 := e1.trans (cit_n (Nat.lt_irrefl _))
    refine And.intro (fun x => absurd x (by decide)) (fun x => ?_)
    refine And.intro rfl (Exists.intro _ (And.intro rfl (And.intro rfl (And.intro (fun x => ?_) (fun x => h.go (e2.trans (cit_n (by omega))) rfl hc (frC_r M))))))
    have hm : qm (sG S) < 6 := by omega
    have e3 := e2.trans (cit_y hm)
    refine And.intro rfl (Exists.intro _ (And.intro rfl (And.intro rfl (Exists.intro _ (And.intro rfl (And.intro rfl ?_))))))
    refine c_remember hG c4 c1 c2 (fun M1 h1 f1 => ?_)
    refine And.intro (fun x => absurd x (by decide)) (fun x => ?_)
    refine And.intro rfl (Exists.intro _ (And.intro rfl (And.intro rfl ?_)))
    refine c_wish hG gl (c1.keep (fun a a1 a2 => f1 a (by omega))) c2 ec hm (fun M2 g1 g2 => ?_)
    have cp := CR_push hc h1 f1 g1 (wshG_wf c2 hm (by omega) hno) g2
    refine And.intro rfl ?_
    refine c_changed hG ?_
    refine And.intro rfl (Exists.intro _ (And.intro rfl (And.intro rfl ?_)))
    exact h.go e3 (cp.1.1.2.1.trans (by show ((qm (sG S) + 1 : Nat) : Int) = _; omega)) cp.1 cp.2
theorem x_limits (hG : GOK Γ) (hc : CR M S) {l : Int} (h : Out Q L M (fLim S l)) : wp Γ mX9_limits 0 [some (VR 1), some (VI l)] [] 0 0 (W0 L) M Q := by
  have gl := W0_g2 L
  obtain ⟨c1, c2, -, c4, -⟩ := id hc
  refine vc_go hG 60 (B := bX9_limits) rfl ?_
  refine And.intro (fun y => h.go (cit_n (by omega)) rfl hc (frC_r M)) (fun y => ?_)
  refine And.intro (fun y2 => ?_) (fun y2 => h.go (cit_n (by omega)) rfl hc (frC_r M))
  have e1 : fLim S l = _ := cit_y ⟨y, y2⟩
  refine And.intro rfl (Exists.intro _ (And.intro rfl (And.intro rfl ?_)))
  refine c_greatest hG gl c1 c2 ?_
  refine And.intro (fun x => ?_) (fun x => h.go (e1.trans (cit_n (by omega))) rfl hc (frC_r M))
  have e2 := e1.trans (cit_y x)
  refine And.intro rfl (Exists.intro _ (And.intro rfl (And.intro rfl (Exists.intro _ (And.intro rfl (And.intro rfl ?_))))))
  refine c_remember hG c4 c1 c2 (fun M1 h1 f1 => ?_)
  have c1' : GrR M1 2 (sG S) := c1.keep (fun a a1 a2 => f1 a (by omega))
  refine And.intro rfl (Exists.intro _ (And.intro rfl (And.intro rfl ?_)))
  refine And.intro rfl (Exists.intro _ (And.intro rfl (And.intro rfl ?_)))
  refine And.intro rfl ?_
  have cp := CR_push hc h1 f1 (GrR_lim c1' (x := l) (l := l.toNat) (by omega)) (limG_wf c2 (by omega)) (fun a ha => upM_ne (by omega))
  refine c_changed hG ?_
  exact h.go e2 c1'.2.2.1 cp.1 cp.2
theorem x_undo (hG : GOK Γ) (hc : CR M S) (h : Out Q L M (fUndo S)) : wp Γ mX9_undo 0 [some (VR 1)] [] 0 0 (W0 L) M Q := by
  obtain ⟨c1, c2, c3, c4, c5, c6, ⟨G7, c7, c7'⟩, ⟨G8, c8, c8'⟩, c9, c10⟩ := id hc
  obtain ⟨r, r1, r2, r3, r4, r5⟩ := id c4
  refine vc_go hG 60 (B := bX9_undo) rfl ?_
  refine And.intro rfl (Exists.intro _ (And.intro rfl (And.intro rfl (And.intro (fun x => ?_) (fun x => h.go (cit_y (by omega)) rfl hc (frC_r M))))))
  have e1 : fUndo S = _ := cit_n (by omega)
  refine And.intro rfl (Exists.intro _ (And.intro rfl (And.intro rfl (Exists.intro _ (And.intro rfl (And.intro rfl ?_))))))
  refine c_restore hG c4 (by omega) (fun M1 h1 g1 f1 => ?_)
  refine And.intro rfl ?_
  refine c_changed hG ?_
  have u : ∀ a, a ≠ 1 → upM (upM M1 1 9 1) 1 10 1 a = M1 a := fun a ha => by rw [upM_ne ha, upM_ne ha]
  have f : ∀ a, a ≠ 1 → 11 < a → a ≠ 24 → upM (upM M1 1 9 1) 1 10 1 a = M a := fun a ha hb hd => by rw [u a ha, f1 a (by omega)]
  refine And.intro rfl (Exists.intro _ (And.intro rfl (And.intro rfl ?_)))
  have h1' : HsR (upM (upM M1 1 9 1) 1 10 1) (sk S - 1) (fun i => sH S (i + 1)) := h1.keep (fun a a1 a2 => u a (by omega))
  obtain ⟨r', -, -, q3, -⟩ := id h1'
  refine h.go e1 (by rw [q3]; omega) ⟨g1.keep (fun a a1 a2 => u a (by omega)), (r5 0 (by omega)).2, ?_, h1', ?_, ?_, ⟨G7, c7.keep (fun a a1 a2 => f a (by omega) (by omega) (by omega)), c7'⟩, ⟨G8, c8.keep (fun a a1 a2 => f a (by omega) (by omega) (by omega)), c8'⟩, Or.inr (by rw [upM_k (by decide), upM_eq]), Or.inr upM_eq⟩ (fun a ha => ?_)
  · exact c3.keep (by rw [f 22 (by omega) (by omega) (by omega)]) (f 23 (by omega) (by omega) (by omega))
  · exact c5.fr (fun a a1 a2 => f a (by omega) (by omega) (by omega))
  · exact c6.keep (fun a a1 a2 => f a (by omega) (by omega) (by omega))
  · by_cases q : a = 0
    · subst q
      rw [u 0 (by decide), f1 0 (by decide)]
    · exact f a (by omega) (by omega) (by omega)
end Cls
