/-! ===== two: the model's and the class's numbers are the same ===== -/
theorem pw_le {e t : Nat} (h : e * 2 ^ t ≤ 1023) (he : 1 ≤ e) : t ≤ 9 := by
  by_cases c : t ≤ 9
  · exact c
  · exfalso
    have h1 : 2 ^ 10 ≤ 2 ^ t := Nat.pow_le_pow_right (by decide) (by omega)
    have h2 : 1 * 2 ^ t ≤ e * 2 ^ t := Nat.mul_le_mul_right _ he
    omega
theorem pw_le2 {e t : Nat} (h : e * 2 ^ t ≤ 2047) (he : 2 ≤ e) : t ≤ 9 := by
  by_cases c : t ≤ 9
  · exact c
  · exfalso
    have h1 : 2 ^ 10 ≤ 2 ^ t := Nat.pow_le_pow_right (by decide) (by omega)
    have h2 : 2 * 2 ^ t ≤ e * 2 ^ t := Nat.mul_le_mul_right _ he
    omega
theorem cm0 (p s q : Nat) : cms p s q 0 = p * 2 ^ s + q := rfl
theorem cm1 (p s q : Nat) : cms p s q 1 = (p * 2 ^ s - q) + (q - p * 2 ^ s) := rfl
theorem cm2 (p s q : Nat) : cms p s q 2 = p + q * 2 ^ s := rfl
theorem cm3 (p s q : Nat) : cms p s q 3 = (p - q * 2 ^ s) + (q * 2 ^ s - p) := rfl
theorem odp_pow {e s n : Nat} (he : e % 2 = 1) (hn : n = e * 2 ^ s) (h : n < 2048) : odp n = e := by
  have h0 : n ≠ 0 := by
    intro z
    rw [z] at hn
    have : 1 * 1 ≤ e * 2 ^ s := Nat.mul_le_mul (by omega) Nat.one_le_two_pow
    omega
  exact (odp_iff h0 h he).2 ⟨s, hn⟩
theorem cw_fwd {e s y f c : Nat} (he : e % 2 = 1) (hc : 1 ≤ c ∧ c ≤ 1023) (hy : y ≤ 1023) (hs : s ≤ 9) (hf : f ≤ 3) (h : cms e s y f = c) : (e = odp (c + y) ∨ e = odp ((c - y) + (y - c))) ∨ ∃ s, s < 10 ∧ (e = c + y * 2 ^ s ∨ e = (c - y * 2 ^ s) + (y * 2 ^ s - c)) := by
  have cf : f = 0 ∨ f = 1 ∨ f = 2 ∨ f = 3 := by omega
  rcases cf with q | q | q | q
  · subst q
    rw [cm0] at h
    exact Or.inl (Or.inr (odp_pow he (show (c - y) + (y - c) = e * 2 ^ s by omega) (by omega)).symm)
  · subst q
    rw [cm1] at h
    by_cases d : y ≤ e * 2 ^ s
    · exact Or.inl (Or.inl (odp_pow he (show c + y = e * 2 ^ s by omega) (by omega)).symm)
    · exact Or.inl (Or.inr (odp_pow he (show (c - y) + (y - c) = e * 2 ^ s by omega) (by omega)).symm)
  · subst q
    rw [cm2] at h
    exact Or.inr ⟨s, by omega, Or.inr (by omega)⟩
  · subst q
    rw [cm3] at h
    by_cases d : y * 2 ^ s ≤ e
    · exact Or.inr ⟨s, by omega, Or.inl (by omega)⟩
    · exact Or.inr ⟨s, by omega, Or.inr (by omega)⟩
theorem cw_bwd {e y c : Nat} (he : e % 2 = 1) (he1 : e ≠ 1) (hc : 1 ≤ c ∧ c ≤ 1023) (hy : y ≤ 1023) (h : (e = odp (c + y) ∨ e = odp ((c - y) + (y - c))) ∨ ∃ s, s < 10 ∧ (e = c + y * 2 ^ s ∨ e = (c - y * 2 ^ s) + (y * 2 ^ s - c))) : ∃ s f, s ≤ 9 ∧ f ≤ 3 ∧ cms e s y f = c := by
  rcases h with (h | h) | ⟨s, hs, h | h⟩
  · have m := odp_mul (c + y)
    rw [← h] at m
    have t := pw_le2 (e := e) (t := hv (c + y)) (by omega) (by omega)
    exact ⟨hv (c + y), 1, t, by decide, by rw [cm1]; omega⟩
  · have m := odp_mul ((c - y) + (y - c))
    rw [← h] at m
    have t := pw_le (e := e) (t := hv ((c - y) + (y - c))) (by omega) (by omega)
    have n0 : (c - y) + (y - c) ≠ 0 := by
      intro z
      rw [z, odp_0] at h
      omega
    by_cases d : y < c
    · exact ⟨_, 0, t, by decide, by rw [cm0]; omega⟩
    · exact ⟨_, 1, t, by decide, by rw [cm1]; omega⟩
  · exact ⟨s, 3, by omega, by decide, by rw [cm3]; omega⟩
  · by_cases d : y * 2 ^ s ≤ c
    · exact ⟨s, 2, by omega, by decide, by rw [cm2]; omega⟩
    · exact ⟨s, 3, by omega, by decide, by rw [cm3]; omega⟩
theorem mulS (e s : Nat) : e * (2 ^ s + 1) = e * 2 ^ s + e ∧ e * (2 ^ s - 1) = e * 2 ^ s - e := ⟨by rw [Nat.mul_add, Nat.mul_one], by rw [Nat.mul_sub, Nat.mul_one]⟩
theorem ca_fwd {e s f c : Nat} (hf : f ≤ 3) (h : cms e s e f = c) : e * (2 ^ s + 1) = c ∨ e * (2 ^ s - 1) = c := by
  obtain ⟨m1, m2⟩ := mulS e s
  rw [m1, m2]
  have l : e * 1 ≤ e * 2 ^ s := Nat.mul_le_mul_left _ Nat.one_le_two_pow
  have cf : f = 0 ∨ f = 1 ∨ f = 2 ∨ f = 3 := by omega
  rcases cf with q | q | q | q
  · subst q
    rw [cm0] at h
    exact Or.inl h
  · subst q
    rw [cm1] at h
    exact Or.inr (by omega)
  · subst q
    rw [cm2] at h
    exact Or.inl (by omega)
  · subst q
    rw [cm3] at h
    exact Or.inr (by omega)
theorem ca_bwd {e s c : Nat} (h : e * (2 ^ s + 1) = c ∨ e * (2 ^ s - 1) = c) : ∃ f, f ≤ 3 ∧ cms e s e f = c := by
  obtain ⟨m1, m2⟩ := mulS e s
  rw [m1, m2] at h
  have l : e * 1 ≤ e * 2 ^ s := Nat.mul_le_mul_left _ Nat.one_le_two_pow
  rcases h with h | h
  · exact ⟨0, by decide, by rw [cm0]; exact h⟩
  · exact ⟨1, by decide, by rw [cm1]; omega⟩
theorem BL_red {V D : Nat → Nat} {lim m v : Nat} (h : BL V D lim m v) : ∃ k s f, k ≤ m ∧ s ≤ 9 ∧ f ≤ 3 ∧ mayV V D lim m s k f ∧ mkM V m k s f = v := by
  obtain ⟨k, s, f, h1, h2, h3, h4 | h4⟩ := h
  · exact ⟨k, s, f, h1, h2, h3, h4⟩
  · have e := cms_mir (p := V k) (s := s) (q := V m) h3
    refine ⟨k, s, (f + 2) % 4, h1, h2, by omega, ?_, ?_⟩
    · have h5 := h4.1
      unfold mayV at h5 ⊢
      rw [e]
      exact ⟨h5.1, h5.2.1, by omega⟩
    · show odp (cms (V m) s (V k) ((f + 2) % 4)) = v
      rw [e]
      exact h4.2
theorem tw_fwd {G : GT} (hw : WFG G) {v e : Nat} (hvo : v % 2 = 1 ∧ v ≤ 1023) (hfar : ¬ isTh G v ∧ ¬ isNr G v) (h : twM G v e) : cnB G v 10 e := by
  obtain ⟨hn, p, q, s0, f0, hb, hB⟩ := h
  obtain ⟨k, s, f, k1, k2, k3, k4, k5⟩ := BL_red hB
  have eo := isNr_b hn
  obtain ⟨b1, b2, b3⟩ := k4
  rw [upN_eq] at b1 b2 b3
  have k5 : odp (cms (upN (qV G) (qn G + 1) e (qn G + 1)) s (upN (qV G) (qn G + 1) e k) f) = v := k5
  rw [upN_eq] at k5
  generalize hY : upN (qV G) (qn G + 1) e k = Y at b1 b2 k5
  generalize hZ : upN (qD G) (qn G + 1) (dpt G p q) k = Z at b3
  have m := odp_mul (cms e s Y f)
  rw [k5] at m
  have us : isUs G e := ⟨eo, hn.2.1, p, q, s0, f0, hb, by show dpt G p q < qL G; omega⟩
  have d9 := pw_le (e := v) (t := hv (cms e s Y f)) (by omega) (by omega)
  refine ⟨hv (cms e s Y f), by omega, by omega, ?_⟩
  rw [m]
  by_cases c : k = qn G + 1
  · subst c
    rw [upN_eq] at hY
    subst hY
    refine Or.inl ⟨us, s, ?_, by omega, ca_fwd k3 rfl⟩
    by_cases s0 : 1 ≤ s
    · exact s0
    · exfalso
      have z : s = 0 := by omega
      subst z
      rcases ca_fwd (e := e) (s := 0) k3 rfl with x | x
      · have oe : odp (cms e 0 e f) = e := odp_pow (s := 1) eo.1 (by rw [← x]) (by omega)
        rw [k5] at oe
        subst oe
        exact hfar.2 hn
      · simp at x
        omega
  · rw [upN_ne c] at hY hZ
    subst hY hZ
    refine Or.inr ⟨k, by omega, by omega, ?_⟩
    rcases cw_fwd (e := e) (s := s) (y := qV G k) (f := f) eo.1 ⟨b1, b2⟩ (WFG_V hw k (by omega)).2.1 k2 k3 rfl with x | ⟨s', x1, x2⟩
    · exact Or.inl ⟨us, x⟩
    · exact Or.inr ⟨us, s', x1, x2⟩
theorem tw_bwd {G : GT} (hw : WFG G) {v e : Nat} (hv : v % 2 = 1 ∧ v ≤ 1023) (h : cnB G v 10 e) : twM G v e := by
  obtain ⟨d, d1, d2, hK⟩ := h
  have us := cnK_us hK
  obtain ⟨eo, nt, p, q, s0, f0, hb, hd⟩ := id us
  have c1 : 1 ≤ v * 2 ^ d := by
    have : 1 * 1 ≤ v * 2 ^ d := Nat.mul_le_mul (by omega) Nat.one_le_two_pow
    omega
  have e1 : e ≠ 1 := fun z => nt ⟨0, by omega, by rw [hw.2.2.2.1]; exact z.symm⟩
  refine ⟨isUs_nr us, p, q, s0, f0, hb, ?_⟩
  have fin : ∀ k s f, k ≤ qn G + 1 → s ≤ 9 → f ≤ 3 → max (dpt G p q) (upN (qD G) (qn G + 1) (dpt G p q) k) + 1 ≤ qL G → cms e s (upN (qV G) (qn G + 1) e k) f = v * 2 ^ d → BL (upN (qV G) (qn G + 1) e) (upN (qD G) (qn G + 1) (dpt G p q)) (qL G) (qn G + 1) v := by
    intro k s f hk hs hf hdd hc
    refine ⟨k, s, f, hk, hs, hf, Or.inl ⟨⟨?_, ?_, ?_⟩, ?_⟩⟩
    · rw [upN_eq, hc]; exact c1
    · rw [upN_eq, hc]; exact d2
    · rw [upN_eq]; exact hdd
    · show odp (cms (upN (qV G) (qn G + 1) e (qn G + 1)) s (upN (qV G) (qn G + 1) e k) f) = v
      rw [upN_eq, hc]
      exact odp_pow hv.1 rfl (by omega)
  rcases hK with ⟨-, s, s1, s2, hA⟩ | ⟨k, k1, k2, hW⟩
  · obtain ⟨f, f1, f2⟩ := ca_bwd hA
    exact fin (qn G + 1) s f (Nat.le_refl _) (by omega) f1 (by rw [upN_eq]; omega) (by rw [upN_eq]; exact f2)
  · have hh : (e = odp (v * 2 ^ d + qV G k) ∨ e = odp ((v * 2 ^ d - qV G k) + (qV G k - v * 2 ^ d))) ∨ ∃ s, s < 10 ∧ (e = v * 2 ^ d + qV G k * 2 ^ s ∨ e = (v * 2 ^ d - qV G k * 2 ^ s) + (qV G k * 2 ^ s - v * 2 ^ d)) := by
      rcases hW with ⟨-, x⟩ | ⟨-, x⟩
      · exact Or.inl x
      · exact Or.inr x
    obtain ⟨s, f, s1, f1, x⟩ := cw_bwd eo.1 e1 ⟨c1, d2⟩ (WFG_V hw k (by omega)).2.1 hh
    exact fin k s f (by omega) s1 f1 (by rw [upN_ne (by omega)]; omega) (by rw [upN_ne (by omega)]; exact x)
theorem NF.far {M : MM} {G : GT} (h : NF M G) {v : Nat} (hv : v < 1024) : isFar G v ↔ (¬ isTh G v ∧ ¬ isNr G v) := by
  constructor
  · rintro ⟨a1, a2⟩
    refine ⟨a1, fun z => ?_⟩
    obtain ⟨p, q, s, f, z⟩ := z.2.2
    exact a2 p q s f z.1 z.2.1
  · rintro ⟨a1, a2⟩
    rcases h v hv with ⟨b1, -⟩ | ⟨b1, b2, -⟩ | ⟨b1, p, q, s, f, b2, -⟩
    · exact absurd b1 a1
    · exact ⟨b1, b2⟩
    · exact absurd ⟨byW_odd b2, b1, p, q, s, f, b2⟩ a2
theorem isLst_c {P P' : Nat → Prop} {r : Int} (h : isLst P r) (hp : ∀ e, P e ↔ P' e) : isLst P' r := by
  rcases h with ⟨a1, a2⟩ | ⟨e, a1, a2, a3⟩
  · exact Or.inl ⟨a1, fun e z => a2 e ((hp e).2 z)⟩
  · exact Or.inr ⟨e, a1, (hp e).1 a2, fun e' he z => a3 e' he ((hp e').2 z)⟩
theorem tw_two {M : MM} {G : GT} (hw : WFG G) (ht : NF M G) {v : Nat} (hv : v % 2 = 1 ∧ v ≤ 1023) {r : Int} (h : isLst (fun e => (¬ isTh G v ∧ ¬ isNr G v) ∧ twM G v e) r) : isTwo G v r := by
  refine isLst_c h (fun e => ?_)
  have f := ht.far (v := v) (by omega)
  exact ⟨fun z => ⟨f.2 z.1, tw_fwd hw hv z.1 z.2⟩, fun z => ⟨f.1 z.1, tw_bwd hw hv z.2⟩⟩
theorem frW.n9 {M M' : MM} {m : Nat} (h : frW M M' m) : frN9 M M' := ⟨fun a a1 a2 a3 _ => h.1 a a2 a3 a1, h.2.1, h.2.2.2⟩
section Mod
variable {Γ : GG} {L : Nat} {M : MM} {Q : QT} {S : ST} {G : GT}
theorem m_two (hG : GOK Γ) (hw : WFG G) (ho : OdR M (qn G + 1) (qV G) (qD G)) (ht : NF M G) {lI vI : Int} {v : Nat} (el : lI = qL G) (ev : vI = v) (hv : v % 2 = 1 ∧ v ≤ 1023) (h : ∀ r M', isTwo G v r → OdR M' (qn G + 1) (qV G) (qD G) → NF M' G → frN9 M M' → Q (some (VI r)) (W0 L) M') : wp Γ mX10_twoOf 0 [some (VR 187), some (VI lI), some (VI vI)] [] 0 0 (W0 L) M Q :=
  m_twoOf hG hw ho ht el ev (by omega) (fun r M' z1 z2 z3 z4 => h r M' (tw_two hw ht hv z1) z2 z3 z4.n9)
theorem y_two (hG : GOK Γ) (hc : MR M S) {v : Int} (h : OutMR Q L M S (twoR (sG S) v)) : wp Γ mX10_two 0 [some (VR 187), some (VI v)] [] 0 0 (W0 L) M Q := by
  have hc0 := hc.th
  have f0 := frM_th M
  refine vc_go hG 60 (B := bX10_two) rfl ?_
  refine And.intro rfl ?_
  refine m_isOddNumber hG (fun ho => ?_) (fun ho => And.intro (fun y => absurd rfl y) (fun y => h _ _ (Or.inl ⟨ho, rfl⟩) hc0 f0))
  refine And.intro (fun y => ?_) (fun y => absurd y (by decide))
  obtain ⟨u1, u2, u3⟩ := id ho
  refine And.intro rfl (Exists.intro _ (And.intro rfl ?_))
  refine And.intro rfl ?_
  refine m_nearsOf hG (RwL_s L) (by decide) (by decide) hc0.1 hc0.2.1 (fun M1 o1 t1 f1 => ?_)
  have hc1 := hc0.n9 f1
  refine And.intro rfl (Exists.intro _ (And.intro rfl ?_))
  refine And.intro (Or.inl rfl) (Exists.intro (56) (And.intro (by omega) (And.intro (show 56 < 57 by omega) ?_)))
  refine And.intro rfl ?_
  refine m_two hG hc.2.1 o1 t1 hc1.1.2.2.1 (v := v.toNat) (by omega) (by omega) (fun r M2 z1 z2 z3 z4 => ?_)
  exact h r M2 (Or.inr ⟨ho, z1⟩) (hc1.n9 z4) ((f0.t f1.m).t z4.m)
end Mod
