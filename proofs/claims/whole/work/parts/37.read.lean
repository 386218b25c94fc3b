/-! ===== the class's Text: reading ===== -/
noncomputable def cit {α : Type} (c : Prop) (x y : α) : α := @ite _ c (Classical.propDecidable c) x y
theorem cit_y {α : Type} {c : Prop} {x y : α} (h : c) : cit c x y = x := by unfold cit; exact if_pos h
theorem cit_n {α : Type} {c : Prop} {x y : α} (h : ¬ c) : cit c x y = y := by unfold cit; exact if_neg h
abbrev TK : Type := Nat × Nat × Int × Nat
abbrev tS (t : TK) : Nat := t.1
abbrev tB (t : TK) : Nat := t.2.1
abbrev tK (t : TK) : Int := t.2.2.1
abbrev tN (t : TK) : Nat := t.2.2.2
theorem TkR.g {M : MM} {t : TK} (h : TkR M t) : M 22 2 = tS t ∧ M 22 3 = tB t ∧ M 22 4 = tK t ∧ M 22 5 = tN t := h
abbrev isN (t : TK) (lo hi : Nat) : Prop := tK t = -2 ∧ lo ≤ tN t ∧ tN t ≤ hi
abbrev RS : Type := Nat ⊕ (Nat × GT)
noncomputable def rdSemi (T : Nat → Nat) (n b : Nat) (G : GT) : RS := cit (tK (tok T n b) = 59) (.inr (tB (tok T n b), G)) (.inl (tS (tok T n b)))
noncomputable def rdLim (T : Nat → Nat) (n b : Nat) (G : GT) : RS := cit (isN (tok T n b) 1 9) (rdSemi T n (tB (tok T n b)) (limG G (tN (tok T n b)))) (.inl (tS (tok T n b)))
noncomputable def rdWsh (T : Nat → Nat) (n b : Nat) (G : GT) : RS := cit (isN (tok T n b) 1 1023 ∧ ∀ k, k < qm G → qC G k ≠ tN (tok T n b)) (rdSemi T n (tB (tok T n b)) (wshG G (tN (tok T n b)))) (.inl (tS (tok T n b)))
noncomputable def rdA4 (T : Nat → Nat) (n b : Nat) (G : GT) (p s q : Nat) : RS := cit (isN (tok T n b) 0 3 ∧ mayB G p s q (tN (tok T n b))) (rdSemi T n (tB (tok T n b)) (addG G p s q (tN (tok T n b)))) (.inl (tS (tok T n b)))
noncomputable def rdA3 (T : Nat → Nat) (n b : Nat) (G : GT) (p s : Nat) : RS := cit (isN (tok T n b) 0 (qn G)) (rdA4 T n (tB (tok T n b)) G p s (tN (tok T n b))) (.inl (tS (tok T n b)))
noncomputable def rdA2 (T : Nat → Nat) (n b : Nat) (G : GT) (p : Nat) : RS := cit (isN (tok T n b) 0 9) (rdA3 T n (tB (tok T n b)) G p (tN (tok T n b))) (.inl (tS (tok T n b)))
noncomputable def rdA1 (T : Nat → Nat) (n b : Nat) (G : GT) : RS := cit (isN (tok T n b) 0 (qn G)) (rdA2 T n (tB (tok T n b)) G (tN (tok T n b))) (.inl (tS (tok T n b)))
noncomputable def rdItem (T : Nat → Nat) (n : Nat) (t : TK) (k : Nat) (G : GT) : RS :=
  cit (tK t = 108) (cit (k = 0) (rdLim T n (tB t) G) (.inl (tS t))) (cit (tK t = 119) (cit (qm G < 6) (rdWsh T n (tB t) G) (.inl (tS t))) (cit (tK t = 97) (cit (qn G < 12) (rdA1 T n (tB t) G) (.inl (tS t))) (.inl (tS t))))
noncomputable def rdAll (T : Nat → Nat) (n : Nat) : Nat → Nat → TK → GT → RS
  | 0, k, _, G => .inr (k, G)
  | j + 1, k, t, G => cit (tK t = -1) (.inr (k, G)) (match rdItem T n t k G with
    | .inl f => .inl f
    | .inr bg => rdAll T n j (k + 1) (tok T n bg.1) bg.2)
def frR (M M' : MM) : Prop := ∀ a, a < 12 ∨ 22 < a → M' a = M a
theorem frR.t {M M' M2 : MM} (h1 : frR M M') (h2 : frR M' M2) : frR M M2 := fun a ha => (h2 a ha).trans (h1 a ha)
theorem frR_22 {M M' : MM} (h : ∀ a, a ≠ 22 → M' a = M a) : frR M M' := fun a ha => h a (by omega)
def E6 : GT := (0, fun _ => 0, fun _ => 0, fun _ => 0, fun _ => 0, fun _ => 1, fun _ => 0, 0, fun _ => 0, 6)
theorem E6_wf : WFG E6 := ⟨by decide, by decide, by decide, rfl, rfl, fun k hk => absurd hk (Nat.not_lt_zero k), fun k hk => absurd hk (Nat.not_lt_zero k), fun i j hi => absurd hi (Nat.not_lt_zero i)⟩
theorem GrR_E6 {M : MM} {g : Nat} {G : GT} (hr : GrR M g G) (hw : WFG G) (h2 : M g 2 = 0) (h3 : M g 3 = 0) (h4 : M g 4 = 6) : GrR M g E6 := by
  obtain ⟨r1, r2, r3, r4, r5, -, -⟩ := hr
  refine ⟨h2, h3, h4, fun k hk => ?_, r5, fun k hk => absurd hk (Nat.not_lt_zero k), fun k hk => absurd hk (Nat.not_lt_zero k)⟩
  have : k = 0 := Nat.le_zero.mp hk
  subst this
  obtain ⟨a, b⟩ := r4 0 (Nat.zero_le _)
  rw [hw.2.2.2.1] at a
  rw [hw.2.2.2.2.1] at b
  exact ⟨a, b⟩
section Text
variable {Γ : GG} {L : Nat} {M : MM} {Q : QT} {n : Nat} {T : Nat → Nat} {G : GT}
def RdY (Q : QT) (L : Nat) (M : MM) (n : Nat) (T : Nat → Nat) (R : RS) : Prop := ∀ (M' : MM) (b' : Nat) (G' : GT), R = .inr (b', G') → TxR M' n T → M' 22 3 = b' → b' ≤ n → GrR M' 12 G' → WFG G' → frR M M' → Q (some (VI 1)) (W0 L) M'
def RdN (Q : QT) (L : Nat) (M : MM) (n : Nat) (T : Nat → Nat) (R : RS) : Prop := ∀ (M' : MM) (f : Nat), R = .inl f → TxR M' n T → M' 22 2 = f → (∃ G', GrR M' 12 G' ∧ WFG G') → frR M M' → Q (some (VI 0)) (W0 L) M'
theorem c_stepNum (hG : GOK Γ) (hh : TxR M n T) {b : Nat} (hb : b ≤ n) (h3 : M 22 3 = b) {lI hI : Int} {lo hi : Nat} (el : lI = lo) (eh : hI = hi)
    (h1 : ∀ M', isN (tok T n b) lo hi → TxR M' n T → TkR M' (tok T n b) → (∀ a, a ≠ 22 → M' a = M a) → Q (some (VI 1)) (W0 L) M')
    (h0 : ∀ M', ¬ isN (tok T n b) lo hi → TxR M' n T → TkR M' (tok T n b) → (∀ a, a ≠ 22 → M' a = M a) → Q (some (VI 0)) (W0 L) M') :
    wp Γ mX7_stepToNumber 0 [some (VR 22), some (VI lI), some (VI hI)] [] 0 0 (W0 L) M Q := by
  subst el eh
  refine vc_go hG 60 (B := bX7_stepToNumber) rfl ?_
  refine And.intro rfl ?_
  refine c_step hG hh hb h3 (fun M' a1 a2 a3 => ?_)
  obtain ⟨k1, k2, k3, k4⟩ := TkR.g a2
  refine And.intro rfl (And.intro (fun c => ?_) (fun c => ?_))
  · exact And.intro (Or.inl rfl) (h0 M' (fun z => by have := z.1; omega) a1 a2 a3)
  refine And.intro rfl (And.intro (fun d => ?_) (fun d => ?_))
  · exact And.intro (Or.inl rfl) (h0 M' (fun z => by have := z.2.1; omega) a1 a2 a3)
  refine And.intro rfl (And.intro (fun e => ?_) (fun e => ?_))
  · exact And.intro (Or.inl rfl) (h0 M' (fun z => by have := z.2.2; omega) a1 a2 a3)
  · exact And.intro (Or.inr rfl) (h1 M' ⟨by omega, by omega, by omega⟩ a1 a2 a3)
theorem c_semi (hG : GOK Γ) (hh : TxR M n T) {b : Nat} (hb : b ≤ n) (h3 : M 22 3 = b) (hr : GrR M 12 G) (hw : WFG G) (h1 : RdY Q L M n T (rdSemi T n b G)) (h0 : RdN Q L M n T (rdSemi T n b G)) : wp Γ mX7_stepToSemicolon 0 [some (VR 22)] [] 0 0 (W0 L) M Q := by
  have tb := tok_b (T := T) hb
  refine vc_go hG 60 (B := bX7_stepToSemicolon) rfl ?_
  refine And.intro rfl ?_
  refine c_step hG hh hb h3 (fun M' a1 a2 a3 => ?_)
  obtain ⟨k1, k2, k3, k4⟩ := TkR.g a2
  have hr' : GrR M' 12 G := hr.keep (fun a b1 b2 => a3 a (by omega))
  refine And.intro rfl (And.intro (fun c => ?_) (fun c => ?_))
  · exact And.intro (Or.inl rfl) (h0 M' _ (cit_n (by omega)) a1 k1 ⟨G, hr', hw⟩ (frR_22 a3))
  · exact And.intro (Or.inr rfl) (h1 M' _ _ (cit_y (by omega)) a1 k2 tb.2.2.1 hr' hw (frR_22 a3))
theorem RdY.step {M1 : MM} {R R' : RS} (h : RdY Q L M n T R) (e : R = R') (hf : frR M M1) : RdY Q L M1 n T R' := by
  subst e
  exact fun M' b' G' a1 a2 a3 a4 a5 a6 a7 => h M' b' G' a1 a2 a3 a4 a5 a6 (hf.t a7)
theorem RdN.step {M1 : MM} {R R' : RS} (h : RdN Q L M n T R) (e : R = R') (hf : frR M M1) : RdN Q L M1 n T R' := by
  subst e
  exact fun M' f a1 a2 a3 a4 a5 => h M' f a1 a2 a3 a4 (hf.t a5)
theorem semi1 {M1 : MM} {R R' : RS} (h : RdY Q L M n T R) (e : R = R') (hf : frR M M1) : RdY (fun v w M' => ∃ z : Int, v = some (VI z) ∧ (z = 0 ∨ z = 1) ∧ Q (some (VI z)) w M') L M1 n T R' := by
  subst e
  exact fun M' b' G' a1 a2 a3 a4 a5 a6 a7 => ⟨1, rfl, Or.inr rfl, h M' b' G' a1 a2 a3 a4 a5 a6 (hf.t a7)⟩
theorem c_readLimit (hG : GOK Γ) (hh : TxR M n T) {b : Nat} (hb : b ≤ n) (h3 : M 22 3 = b) (hr : GrR M 12 G) (hw : WFG G) (h1 : RdY Q L M n T (rdLim T n b G)) (h0 : RdN Q L M n T (rdLim T n b G)) : wp Γ mX7_readLimit 0 [some (VR 22), some (VR 12)] [] 0 0 (W0 L) M Q := by
  have tb := tok_b (T := T) hb
  refine vc_go hG 60 (B := bX7_readLimit) rfl ?_
  refine And.intro rfl ?_
  refine c_stepNum hG hh hb h3 (lo := 1) (hi := 9) rfl rfl (fun M' a0 a1 a2 a3 => ?_) (fun M' a0 a1 a2 a3 => ?_)
  · obtain ⟨k1, k2, k3, k4⟩ := TkR.g a2
    have hr' : GrR M' 12 G := hr.keep (fun a b1 b2 => a3 a (by omega))
    refine And.intro (fun c => ?_) (fun c => absurd c (by decide))
    refine And.intro rfl (And.intro rfl (And.intro rfl ?_))
    have hr2 : GrR (upM M' 12 4 (M' 22 5)) 12 (limG G (tN (tok T n b))) := by
      obtain ⟨r1, r2, r3, r4, r5, r6, r7⟩ := hr'
      refine ⟨by rw [upM_k (by decide)]; exact r1, by rw [upM_k (by decide)]; exact r2, by rw [upM_eq]; exact k4, ?_⟩
      rw [upM_ne (by decide), upM_ne (by decide), upM_ne (by decide), upM_ne (by decide), upM_ne (by decide), upM_ne (by decide), upM_ne (by decide), upM_ne (by decide)]
      exact ⟨r4, r5, r6, r7⟩
    have hf2 : frR M (upM M' 12 4 (M' 22 5)) := fun a ha => by rw [upM_ne (by omega)]; exact a3 a (by omega)
    have e : rdLim T n b G = rdSemi T n (tB (tok T n b)) (limG G (tN (tok T n b))) := cit_y a0
    refine c_semi hG (a1.keep (upM_a (by decide)) (upM_ne (by decide))) tb.2.2.1 (by rw [upM_a (by decide)]; exact k2) hr2 (limG_wf hw a0.2) (fun M2 b2 G2 z1 z2 z3 z4 z5 z6 z7 => ?_) (fun M2 f z1 z2 z3 z4 z5 => ?_)
    · exact And.intro (Or.inr rfl) (h1 M2 b2 G2 (e.trans z1) z2 z3 z4 z5 z6 (hf2.t z7))
    · exact And.intro (Or.inl rfl) (h0 M2 f (e.trans z1) z2 z3 z4 (hf2.t z5))
  · obtain ⟨k1, k2, k3, k4⟩ := TkR.g a2
    refine And.intro (fun c => absurd rfl c) (fun c => ?_)
    exact And.intro (Or.inl rfl) (h0 M' _ (cit_n a0) a1 k1 ⟨G, hr.keep (fun a b1 b2 => a3 a (by omega)), hw⟩ (frR_22 a3))
theorem c_readWish (hG : GOK Γ) (hh : TxR M n T) {b : Nat} (hb : b ≤ n) (h3 : M 22 3 = b) (hr : GrR M 12 G) (hw : WFG G) (hm : qm G < 6) (h1 : RdY Q L M n T (rdWsh T n b G)) (h0 : RdN Q L M n T (rdWsh T n b G)) : wp Γ mX7_readWish 0 [some (VR 22), some (VR 12)] [] 0 0 (W0 L) M Q := by
  have tb := tok_b (T := T) hb
  have gl := W0_g12 L
  refine vc_go hG 60 (B := bX7_readWish) rfl ?_
  refine And.intro rfl ?_
  refine c_stepNum hG hh hb h3 (lo := 1) (hi := 1023) rfl rfl (fun M' a0 a1 a2 a3 => ?_) (fun M' a0 a1 a2 a3 => ?_)
  · obtain ⟨k1, k2, k3, k4⟩ := TkR.g a2
    have hr' : GrR M' 12 G := hr.keep (fun a b1 b2 => a3 a (by omega))
    refine And.intro (fun c => absurd c (by decide)) (fun c => ?_)
    refine And.intro rfl (And.intro rfl ?_)
    refine c_placeOf hG gl hr' hw k4 (fun k hk ek => ?_) (fun hno => ?_)
    · refine And.intro (fun d => by omega) (fun d => ?_)
      exact And.intro (Or.inl rfl) (h0 M' _ (cit_n (fun z => z.2 k hk ek)) a1 k1 ⟨G, hr', hw⟩ (frR_22 a3))
    · refine And.intro (fun d => ?_) (fun d => absurd d (by decide))
      refine And.intro rfl (And.intro rfl ?_)
      refine c_wish hG gl hr' hw k4 hm (fun M2 g1 g2 => ?_)
      have hf2 : frR M M2 := fun a ha => by rw [g2 a (by omega)]; exact a3 a (by omega)
      have e : rdWsh T n b G = rdSemi T n (tB (tok T n b)) (wshG G (tN (tok T n b))) := cit_y ⟨a0, hno⟩
      refine And.intro rfl ?_
      refine c_semi hG (a1.keep (by rw [g2 22 (by decide)]) (g2 23 (by decide))) tb.2.2.1 (by rw [g2 22 (by decide)]; exact k2) g1 (wshG_wf hw hm a0.2 hno) (fun M2 b2 G2 z1 z2 z3 z4 z5 z6 z7 => ?_) (fun M2 f z1 z2 z3 z4 z5 => ?_)
      · exact And.intro (Or.inr rfl) (h1 M2 b2 G2 (e.trans z1) z2 z3 z4 z5 z6 (hf2.t z7))
      · exact And.intro (Or.inl rfl) (h0 M2 f (e.trans z1) z2 z3 z4 (hf2.t z5))
  · obtain ⟨k1, k2, k3, k4⟩ := TkR.g a2
    refine And.intro (fun c => ?_) (fun c => absurd rfl c)
    exact And.intro (Or.inl rfl) (h0 M' _ (cit_n (fun z => a0 z.1)) a1 k1 ⟨G, hr.keep (fun a b1 b2 => a3 a (by omega)), hw⟩ (frR_22 a3))
theorem c_readAdder (hG : GOK Γ) (hh : TxR M n T) {b : Nat} (hb : b ≤ n) (h3 : M 22 3 = b) (hr : GrR M 12 G) (hw : WFG G) (hn : qn G < 12) (h1 : RdY Q L M n T (rdA1 T n b G)) (h0 : RdN Q L M n T (rdA1 T n b G)) : wp Γ mX7_readAdder 0 [some (VR 22), some (VR 12)] [] 0 0 (W0 L) M Q := by
  have tb := tok_b (T := T) hb
  have gl := W0_g12 L
  refine vc_go hG 60 (B := bX7_readAdder) rfl ?_
  refine And.intro rfl (And.intro rfl ?_)
  refine c_stepNum hG hh hb h3 (lo := 0) (hi := qn G) rfl hr.1 (fun M1 a0 a1 a2 a3 => ?_) (fun M' a0 a1 a2 a3 => ?_)
  · obtain ⟨k1, k2, k3, k4⟩ := TkR.g a2
    have hr1 : GrR M1 12 G := hr.keep (fun a b1 b2 => a3 a (by omega))
    have e1 : rdA1 T n b G = rdA2 T n (tB (tok T n b)) G (tN (tok T n b)) := cit_y a0
    have hf1 : frR M M1 := frR_22 a3
    refine And.intro (fun c => ?_) (fun c => absurd c (by decide))
    refine And.intro rfl (And.intro rfl ?_)
    have tb2 := tok_b (T := T) tb.2.2.1
    refine c_stepNum hG a1 tb.2.2.1 k2 (lo := 0) (hi := 9) rfl rfl (fun M2 d0 d1 d2 d3 => ?_) (fun M2 d0 d1 d2 d3 => ?_)
    · obtain ⟨l1, l2, l3, l4⟩ := TkR.g d2
      have hr2 : GrR M2 12 G := hr1.keep (fun a b1 b2 => d3 a (by omega))
      have e2 := e1.trans (show rdA2 T n (tB (tok T n b)) G (tN (tok T n b)) = _ from cit_y d0)
      have hf2 : frR M M2 := hf1.t (frR_22 d3)
      refine And.intro (fun c => ?_) (fun c => absurd c (by decide))
      refine And.intro rfl (And.intro rfl (And.intro rfl ?_))
      have tb3 := tok_b (T := T) tb2.2.2.1
      refine c_stepNum hG d1 tb2.2.2.1 l2 (lo := 0) (hi := qn G) rfl hr2.1 (fun M3 f0 f1 f2 f3 => ?_) (fun M3 f0 f1 f2 f3 => ?_)
      · obtain ⟨m1, m2, m3, m4⟩ := TkR.g f2
        have hr3 : GrR M3 12 G := hr2.keep (fun a b1 b2 => f3 a (by omega))
        have e3 := e2.trans (show rdA3 T n (tB (tok T n (tB (tok T n b)))) G (tN (tok T n b)) (tN (tok T n (tB (tok T n b)))) = _ from cit_y f0)
        have hf3 : frR M M3 := hf2.t (frR_22 f3)
        refine And.intro (fun c => ?_) (fun c => absurd c (by decide))
        refine And.intro rfl (And.intro rfl ?_)
        have tb4 := tok_b (T := T) tb3.2.2.1
        refine c_stepNum hG f1 tb3.2.2.1 m2 (lo := 0) (hi := 3) rfl rfl (fun M4 g0 g1 g2 g3 => ?_) (fun M4 g0 g1 g2 g3 => ?_)
        · obtain ⟨n1, n2, n3, n4⟩ := TkR.g g2
          have hr4 : GrR M4 12 G := hr3.keep (fun a b1 b2 => g3 a (by omega))
          have hf4 : frR M M4 := hf3.t (frR_22 g3)
          refine And.intro (fun c => absurd c (by decide)) (fun c => ?_)
          refine And.intro rfl (And.intro rfl ?_)
          refine c_mayBe hG gl hr4 hw k4 l4 m4 n4 a0.2.2 d0.2.2 f0.2.2 g0.2.2 (fun mb => ?_) (fun mb => ?_)
          · refine And.intro (fun c => ?_) (fun c => absurd c (by decide))
            refine And.intro rfl (And.intro rfl ?_)
            refine c_append hG gl hr4 hw k4 l4 m4 n4 a0.2.2 d0.2.2 f0.2.2 g0.2.2 hn mb.2.1 (fun M5 o1 o2 => ?_)
            have hf5 : frR M M5 := fun a ha => by rw [o2 a (by omega)]; exact hf4 a ha
            have e5 := e3.trans (show rdA4 T n _ G _ _ _ = _ from cit_y ⟨g0, mb⟩)
            refine And.intro rfl ?_
            refine c_semi hG (g1.keep (by rw [o2 22 (by decide)]) (o2 23 (by decide))) tb4.2.2.1 (by rw [o2 22 (by decide)]; exact n2) o1 (addG_wf hw a0.2.2 d0.2.2 f0.2.2 g0.2.2 hn mb) (fun M2 b2 G2 z1 z2 z3 z4 z5 z6 z7 => ?_) (fun M2 f z1 z2 z3 z4 z5 => ?_)
            · exact And.intro (Or.inr rfl) (h1 M2 b2 G2 (e5.trans z1) z2 z3 z4 z5 z6 (hf5.t z7))
            · exact And.intro (Or.inl rfl) (h0 M2 f (e5.trans z1) z2 z3 z4 (hf5.t z5))
          · refine And.intro (fun c => absurd rfl c) (fun c => ?_)
            exact And.intro (Or.inl rfl) (h0 M4 _ (e3.trans (cit_n (fun z => mb z.2))) g1 n1 ⟨G, hr4, hw⟩ hf4)
        · obtain ⟨n1, n2, n3, n4⟩ := TkR.g g2
          refine And.intro (fun c => ?_) (fun c => absurd rfl c)
          exact And.intro (Or.inl rfl) (h0 M4 _ (e3.trans (cit_n (fun z => g0 z.1))) g1 n1 ⟨G, hr3.keep (fun a b1 b2 => g3 a (by omega)), hw⟩ (hf3.t (frR_22 g3)))
      · obtain ⟨m1, m2, m3, m4⟩ := TkR.g f2
        refine And.intro (fun c => absurd rfl c) (fun c => ?_)
        exact And.intro (Or.inl rfl) (h0 M3 _ (e2.trans (cit_n f0)) f1 m1 ⟨G, hr2.keep (fun a b1 b2 => f3 a (by omega)), hw⟩ (hf2.t (frR_22 f3)))
    · obtain ⟨l1, l2, l3, l4⟩ := TkR.g d2
      refine And.intro (fun c => absurd rfl c) (fun c => ?_)
      exact And.intro (Or.inl rfl) (h0 M2 _ (e1.trans (cit_n d0)) d1 l1 ⟨G, hr1.keep (fun a b1 b2 => d3 a (by omega)), hw⟩ (hf1.t (frR_22 d3)))
  · obtain ⟨k1, k2, k3, k4⟩ := TkR.g a2
    refine And.intro (fun c => absurd rfl c) (fun c => ?_)
    exact And.intro (Or.inl rfl) (h0 M' _ (cit_n a0) a1 k1 ⟨G, hr.keep (fun a b1 b2 => a3 a (by omega)), hw⟩ (frR_22 a3))
end Text
