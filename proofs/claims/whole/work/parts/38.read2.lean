/-! ===== the class's Text: items ===== -/
theorem cit_f {c : Prop} {X : RS} {s f n : Nat} (h : cit c X (.inl s) = .inl f) (hs : s ≤ n) (hX : X = .inl f → f ≤ n) : f ≤ n := by
  by_cases q : c
  · rw [cit_y q] at h; exact hX h
  · rw [cit_n q] at h
    have : s = f := Sum.inl.inj h
    omega
theorem cit_s {c : Prop} {X : RS} {s : Nat} {y : Nat × GT} (h : cit c X (.inl s) = .inr y) : c ∧ X = .inr y := by
  by_cases q : c
  · rw [cit_y q] at h; exact ⟨q, h⟩
  · rw [cit_n q] at h; cases h
theorem tok_l {T : Nat → Nat} {n b : Nat} (hb : b ≤ n) : tS (tok T n b) ≤ n ∧ tB (tok T n b) ≤ n ∧ b ≤ tB (tok T n b) := by
  have := tok_b (T := T) hb
  exact ⟨by show (tok T n b).1 ≤ n; omega, this.2.2.1, by show b ≤ (tok T n b).2.1; omega⟩
theorem semi_f {T : Nat → Nat} {n b f : Nat} {G : GT} (hb : b ≤ n) (h : rdSemi T n b G = .inl f) : f ≤ n := cit_f h (tok_l hb).1 (fun z => by cases z)
theorem semi_s {T : Nat → Nat} {n b : Nat} {G : GT} {y : Nat × GT} (hb : b ≤ n) (h : rdSemi T n b G = .inr y) : b < y.1 ∧ y.1 ≤ n ∧ y.2 = G := by
  obtain ⟨h1, h2⟩ := cit_s h
  have t := tok_b (T := T) hb
  have h1 : (tok T n b).2.2.1 = 59 := h1
  have h3 := t.2.2.2.2.1 (by omega)
  have e : (tB (tok T n b), G) = y := Sum.inr.inj h2
  subst e
  exact ⟨by show b < (tok T n b).2.1; omega, t.2.2.1, rfl⟩
theorem lim_f {T : Nat → Nat} {n b f : Nat} {G : GT} (hb : b ≤ n) (h : rdLim T n b G = .inl f) : f ≤ n := cit_f h (tok_l hb).1 (fun z => semi_f (tok_l hb).2.1 z)
theorem wsh_f {T : Nat → Nat} {n b f : Nat} {G : GT} (hb : b ≤ n) (h : rdWsh T n b G = .inl f) : f ≤ n := cit_f h (tok_l hb).1 (fun z => semi_f (tok_l hb).2.1 z)
theorem a4_f {T : Nat → Nat} {n b f : Nat} {G : GT} {p s q : Nat} (hb : b ≤ n) (h : rdA4 T n b G p s q = .inl f) : f ≤ n := cit_f h (tok_l hb).1 (fun z => semi_f (tok_l hb).2.1 z)
theorem a3_f {T : Nat → Nat} {n b f : Nat} {G : GT} {p s : Nat} (hb : b ≤ n) (h : rdA3 T n b G p s = .inl f) : f ≤ n := cit_f h (tok_l hb).1 (fun z => a4_f (tok_l hb).2.1 z)
theorem a2_f {T : Nat → Nat} {n b f : Nat} {G : GT} {p : Nat} (hb : b ≤ n) (h : rdA2 T n b G p = .inl f) : f ≤ n := cit_f h (tok_l hb).1 (fun z => a3_f (tok_l hb).2.1 z)
theorem a1_f {T : Nat → Nat} {n b f : Nat} {G : GT} (hb : b ≤ n) (h : rdA1 T n b G = .inl f) : f ≤ n := cit_f h (tok_l hb).1 (fun z => a2_f (tok_l hb).2.1 z)
theorem lim_s {T : Nat → Nat} {n b : Nat} {G : GT} {y : Nat × GT} (hb : b ≤ n) (h : rdLim T n b G = .inr y) : b < y.1 ∧ y.1 ≤ n := by
  have t := tok_l (T := T) hb
  have := semi_s t.2.1 (cit_s h).2
  omega
theorem wsh_s {T : Nat → Nat} {n b : Nat} {G : GT} {y : Nat × GT} (hb : b ≤ n) (h : rdWsh T n b G = .inr y) : b < y.1 ∧ y.1 ≤ n := by
  have t := tok_l (T := T) hb
  have := semi_s t.2.1 (cit_s h).2
  omega
theorem a4_s {T : Nat → Nat} {n b : Nat} {G : GT} {p s q : Nat} {y : Nat × GT} (hb : b ≤ n) (h : rdA4 T n b G p s q = .inr y) : b < y.1 ∧ y.1 ≤ n := by
  have t := tok_l (T := T) hb
  have := semi_s t.2.1 (cit_s h).2
  omega
theorem a3_s {T : Nat → Nat} {n b : Nat} {G : GT} {p s : Nat} {y : Nat × GT} (hb : b ≤ n) (h : rdA3 T n b G p s = .inr y) : b < y.1 ∧ y.1 ≤ n := by
  have t := tok_l (T := T) hb
  have := a4_s t.2.1 (cit_s h).2
  omega
theorem a2_s {T : Nat → Nat} {n b : Nat} {G : GT} {p : Nat} {y : Nat × GT} (hb : b ≤ n) (h : rdA2 T n b G p = .inr y) : b < y.1 ∧ y.1 ≤ n := by
  have t := tok_l (T := T) hb
  have := a3_s t.2.1 (cit_s h).2
  omega
theorem a1_s {T : Nat → Nat} {n b : Nat} {G : GT} {y : Nat × GT} (hb : b ≤ n) (h : rdA1 T n b G = .inr y) : b < y.1 ∧ y.1 ≤ n := by
  have t := tok_l (T := T) hb
  have := a2_s t.2.1 (cit_s h).2
  omega
theorem item_f {T : Nat → Nat} {n k f : Nat} {t : TK} {G : GT} (hs : tS t ≤ n) (hb : tB t ≤ n) (h : rdItem T n t k G = .inl f) : f ≤ n := by
  unfold rdItem at h
  by_cases q1 : tK t = 108
  · rw [cit_y q1] at h
    exact cit_f h hs (lim_f hb)
  · rw [cit_n q1] at h
    by_cases q2 : tK t = 119
    · rw [cit_y q2] at h
      exact cit_f h hs (wsh_f hb)
    · rw [cit_n q2] at h
      exact cit_f h hs (fun z => cit_f z hs (a1_f hb))
theorem item_s {T : Nat → Nat} {n k : Nat} {t : TK} {G : GT} {y : Nat × GT} (hb : tB t ≤ n) (h : rdItem T n t k G = .inr y) : tB t < y.1 ∧ y.1 ≤ n := by
  unfold rdItem at h
  by_cases q1 : tK t = 108
  · rw [cit_y q1] at h
    exact lim_s hb (cit_s h).2
  · rw [cit_n q1] at h
    by_cases q2 : tK t = 119
    · rw [cit_y q2] at h
      exact wsh_s hb (cit_s h).2
    · rw [cit_n q2] at h
      exact a1_s hb (cit_s (cit_s h).2).2
section Text
variable {Γ : GG} {L : Nat} {M : MM} {Q : QT} {n : Nat} {T : Nat → Nat} {G : GT}
theorem c_readItem (hG : GOK Γ) (hh : TxR M n T) {t : TK} (ht : TkR M t) (hb : tB t ≤ n) {kI : Int} {k : Nat} (ek : kI = k) (hr : GrR M 12 G) (hw : WFG G) (h1 : RdY Q L M n T (rdItem T n t k G)) (h0 : RdN Q L M n T (rdItem T n t k G)) : wp Γ mX7_readItem 0 [some (VR 22), some (VR 12), some (VI kI)] [] 0 0 (W0 L) M Q := by
  subst ek
  obtain ⟨k1, k2, k3, k4⟩ := TkR.g ht
  have fail : rdItem T n t k G = .inl (tS t) → Q (some (VI 0)) (W0 L) M := fun e => h0 M _ e hh k1 ⟨G, hr, hw⟩ (fun a _ => rfl)
  refine vc_go hG 60 (B := bX7_readItem) rfl ?_
  refine And.intro rfl ?_
  refine And.intro (fun x => ?_) (fun x => And.intro (fun x2 => ?_) (fun x2 => And.intro (fun x3 => ?_) (fun x3 => ?_)))
  · have e1 : rdItem T n t k G = cit (qn G < 12) (rdA1 T n (tB t) G) (.inl (tS t)) := (cit_n (by omega)).trans ((cit_n (by omega)).trans (cit_y (by omega)))
    refine And.intro rfl (And.intro (fun y => ?_) (fun y => ?_))
    · exact And.intro (Or.inl rfl) (fail (e1.trans (cit_n (by have := hr.1; omega))))
    · have hn : qn G < 12 := by have := hr.1; omega
      have e2 := e1.trans (cit_y hn)
      refine And.intro rfl ?_
      refine c_readAdder hG hh hb k2 hr hw hn (fun M2 b2 G2 z1 z2 z3 z4 z5 z6 z7 => ?_) (fun M2 f z1 z2 z3 z4 z5 => ?_)
      · exact And.intro (fun c => absurd c (by decide)) (fun c => And.intro (Or.inr rfl) (h1 M2 b2 G2 (e2.trans z1) z2 z3 z4 z5 z6 z7))
      · exact And.intro (fun c => And.intro (Or.inl rfl) (h0 M2 f (e2.trans z1) z2 z3 z4 z5)) (fun c => absurd rfl c)
  · have e1 : rdItem T n t k G = cit (k = 0) (rdLim T n (tB t) G) (.inl (tS t)) := cit_y (by omega)
    refine And.intro (fun y => ?_) (fun y => ?_)
    · exact And.intro (Or.inl rfl) (fail (e1.trans (cit_n (by omega))))
    · have e2 := e1.trans (cit_y (by omega))
      refine And.intro rfl ?_
      refine c_readLimit hG hh hb k2 hr hw (fun M2 b2 G2 z1 z2 z3 z4 z5 z6 z7 => ?_) (fun M2 f z1 z2 z3 z4 z5 => ?_)
      · exact And.intro (fun c => absurd c (by decide)) (fun c => And.intro (Or.inr rfl) (h1 M2 b2 G2 (e2.trans z1) z2 z3 z4 z5 z6 z7))
      · exact And.intro (fun c => And.intro (Or.inl rfl) (h0 M2 f (e2.trans z1) z2 z3 z4 z5)) (fun c => absurd rfl c)
  · have e1 : rdItem T n t k G = cit (qm G < 6) (rdWsh T n (tB t) G) (.inl (tS t)) := (cit_n (by omega)).trans (cit_y (by omega))
    have em := hr.2.1
    refine And.intro rfl (And.intro (fun y => ?_) (fun y => ?_))
    · exact And.intro (Or.inl rfl) (fail (e1.trans (cit_n (by omega))))
    · have hm : qm G < 6 := by omega
      have e2 := e1.trans (cit_y hm)
      refine And.intro rfl ?_
      refine c_readWish hG hh hb k2 hr hw hm (fun M2 b2 G2 z1 z2 z3 z4 z5 z6 z7 => ?_) (fun M2 f z1 z2 z3 z4 z5 => ?_)
      · exact And.intro (fun c => absurd c (by decide)) (fun c => And.intro (Or.inr rfl) (h1 M2 b2 G2 (e2.trans z1) z2 z3 z4 z5 z6 z7))
      · exact And.intro (fun c => And.intro (Or.inl rfl) (h0 M2 f (e2.trans z1) z2 z3 z4 z5)) (fun c => absurd rfl c)
  · refine And.intro (Or.inl rfl) (fail ?_)
    exact (cit_n (by omega)).trans ((cit_n (by omega)).trans (cit_n (by omega)))
theorem l_read (hG : GOK Γ) (R : RS) (h1 : ∀ (M' : MM) (k : Nat) (G' : GT), R = .inr (k, G') → k ≤ 80 → TxR M' n T → GrR M' 12 G' → WFG G' → frR M M' → Q (some (VI k)) (W0 L) M')
    (h0 : ∀ (M' : MM) (f : Nat), R = .inl f → f ≤ 80 → TxR M' n T → (∃ G', GrR M' 12 G' ∧ WFG G') → frR M M' → Q (some (VI (-10 - (f : Int)))) (W0 L) M') :
    ∀ (j k : Nat) (t : TK) (G : GT) (M1 : MM), k + j = 80 → TxR M1 n T → TkR M1 t → tS t ≤ n → tB t ≤ n → GrR M1 12 G → WFG G → frR M M1 → rdAll T n j k t G = R → wp Γ mX7_read 15 [some (VR 22), some (VR 12), some (VI k)] [] 0 0 (W0 L) M1 Q := by
  intro j
  induction j with
  | zero =>
    intro k t G M1 hj hh ht hs hb hr hw hf hR
    refine vc_go hG 60 (B := bX7_read) rfl ?_
    exact And.intro (fun a => h1 M1 k G hR.symm (by omega) hh hr hw hf) (fun a => by omega)
  | succ j ih =>
    intro k t G M1 hj hh ht hs hb hr hw hf hR
    obtain ⟨k1, k2, k3, k4⟩ := TkR.g ht
    have er : rdAll T n (j + 1) k t G = cit (tK t = -1) (.inr (k, G)) (match rdItem T n t k G with
      | .inl f => .inl f
      | .inr bg => rdAll T n j (k + 1) (tok T n bg.1) bg.2) := rfl
    rw [er] at hR
    refine vc_go hG 60 (B := bX7_read) rfl ?_
    refine And.intro (fun a => by omega) (fun a => ?_)
    refine And.intro rfl (And.intro (fun c => ?_) (fun c => ?_))
    · rw [cit_y (by omega)] at hR
      exact h1 M1 k G hR.symm (by omega) hh hr hw hf
    · rw [cit_n (by omega)] at hR
      refine And.intro rfl ?_
      refine c_readItem hG hh ht hb rfl hr hw (fun M2 b2 G2 z1 z2 z3 z4 z5 z6 z7 => ?_) (fun M2 f z1 z2 z3 z4 z5 => ?_)
      · rw [z1] at hR
        refine And.intro (fun d => ?_) (fun d => absurd d (by decide))
        refine And.intro (by omega) ?_
        refine And.intro rfl ?_
        have tb := tok_b (T := T) z4
        refine c_step hG z2 z4 z3 (fun M3 y1 y2 y3 => ?_)
        exact ih (k + 1) (tok T n b2) G2 M3 (by omega) y1 y2 (Nat.le_trans tb.2.1 tb.2.2.1) tb.2.2.1 (z5.keep (fun a b1 b2 => y3 a (by omega))) z6 ((hf.t z7).t (frR_22 y3)) hR
      · rw [z1] at hR
        refine And.intro (fun d => absurd rfl d) (fun d => ?_)
        have tb : tS t ≤ n := hs
        have fb : f ≤ n := item_f tb hb z1
        have n80 := z2.2.1
        refine And.intro rfl (And.intro (by omega) ?_)
        rw [z3]
        exact h0 M2 f hR.symm (by omega) z2 z4 (hf.t z5)
theorem c_read (hG : GOK Γ) (hh : TxR M n T) (hg : ∃ G, GrR M 12 G ∧ WFG G) (h1 : ∀ (M' : MM) (k : Nat) (G' : GT), rdAll T n 80 0 (tok T n 0) E6 = .inr (k, G') → k ≤ 80 → TxR M' n T → GrR M' 12 G' → WFG G' → frR M M' → Q (some (VI k)) (W0 L) M')
    (h0 : ∀ (M' : MM) (f : Nat), rdAll T n 80 0 (tok T n 0) E6 = .inl f → f ≤ 80 → TxR M' n T → (∃ G', GrR M' 12 G' ∧ WFG G') → frR M M' → Q (some (VI (-10 - (f : Int)))) (W0 L) M') : wp Γ mX7_read 0 [some (VR 22), some (VR 12)] [] 0 0 (W0 L) M Q := by
  obtain ⟨G, hr, hw⟩ := hg
  have gl := W0_g12 L
  refine vc_go hG 60 (B := bX7_read) rfl ?_
  refine And.intro rfl ?_
  refine c_empty hG gl hr (fun M1 g1 g2 => ?_)
  have r1 : GrR M1 12 E6 := GrR_E6 g1 (empG_wf hw) g1.1 g1.2.1 g1.2.2.1
  refine And.intro rfl ?_
  refine And.intro rfl ?_
  have tb := tok_b (T := T) (Nat.zero_le n)
  refine c_step hG (n := n) (T := T) (b := 0) (hh.keep (by rw [upM_k (by decide), g2 22 (by decide)]) (by rw [upM_ne (by decide), g2 23 (by decide)])) (Nat.zero_le _) upM_eq (fun M2 y1 y2 y3 => ?_)
  refine l_read hG _ h1 h0 80 0 (tok T n 0) E6 M2 rfl y1 y2 (Nat.le_trans tb.2.1 tb.2.2.1) tb.2.2.1 (r1.keep (fun a b1 b2 => by rw [y3 a (by omega), upM_ne (by omega)])) E6_wf (fun a ha => by rw [y3 a (by omega), upM_ne (by omega), g2 a (by omega)]) rfl
end Text
