/-! ===== the model: digits ===== -/
theorem dgA (v e : Nat) : v / 2 ^ (e + 1) = v / 2 ^ e / 2 := by rw [Nat.pow_succ, Nat.div_div_eq_div_mul]
theorem dg3 (v : Nat) : ∀ e, 3 * (v / 2 ^ e) ≤ 3 * v / 2 ^ e ∧ 3 * v / 2 ^ e ≤ 3 * (v / 2 ^ e) + 2
  | 0 => by simp
  | e + 1 => by
    have := dg3 v e
    rw [dgA, dgA]
    omega
section Mod
variable {Γ : GG} {L : Nat} {M : MM} {Q : QT} {S : ST} {G : GT}
theorem l_digitOf (hG : GOK Γ) {w : Wd} {v k : Nat} (hv : v ≤ 1023) (hk : k ≤ 11) (h : Q (some (VI (sgd v k))) w M) : ∀ (j e : Nat) (x z : Int), e + j = k + 1 → x = ((3 * v / 2 ^ (e + 1) : Nat) : Int) - ((v / 2 ^ (e + 1) : Nat) : Int) → (e = 0 ∨ z = sgd v (e - 1)) → wp Γ mX10_digitOf 7 [some (VI v), some (VI k), some (VI x), some (VI z), some (VI e)] [] 0 0 w M Q := by
  intro j
  induction j with
  | zero =>
    intro e x z he hx hz
    have ee : e = k + 1 := by omega
    subst ee
    refine vc_go hG 60 (B := bX10_digitOf) rfl ?_
    refine And.intro (fun y => ?_) (fun y => by omega)
    rcases hz with q | q
    · omega
    · subst q
      exact h
  | succ j ih =>
    intro e x z he hx hz
    have d := dg3 v (e + 1)
    have hA : 3 * v / 2 ^ (e + 1) ≤ 3 * v := Nat.div_le_self _ _
    have hA2 := dgA (3 * v) (e + 1)
    have hB2 := dgA v (e + 1)
    have es : sgd v e = ((3 * v / 2 ^ (e + 1) % 2 : Nat) : Int) - ((v / 2 ^ (e + 1) % 2 : Nat) : Int) := rfl
    have nx := fun x' z' => ih (e + 1) x' z' (by omega)
    rw [hA2, hB2, show e + 1 - 1 = e from rfl, es] at nx
    generalize 3 * v / 2 ^ (e + 1) = A at *
    generalize v / 2 ^ (e + 1) = B at *
    have fin : ∀ z' : Int, z' = ((A % 2 : Nat) : Int) - ((B % 2 : Nat) : Int) → wp Γ mX10_digitOf 36 [some (VI v), some (VI k), some (VI x), some (VI z'), some (VI e)] [] 0 0 w M Q := by
      intro z' hz'
      refine vc_go hG 60 (B := bX10_digitOf) rfl ?_
      refine And.intro (by omega) (And.intro ⟨by omega, by decide⟩ (And.intro (by omega) ?_))
      exact nx _ z' (by omega) (Or.inr hz')
    refine vc_goS hG 60 [36] (B := bX10_digitOf) rfl ?_
    refine And.intro (fun y => by omega) (fun y => ?_)
    refine And.intro ⟨by omega, by decide⟩ (And.intro (fun y2 => ?_) (fun y2 => ?_))
    · refine And.intro ⟨by omega, by decide⟩ (And.intro (fun y3 => ?_) (fun y3 => ?_))
      · exact fin (-1) (by omega)
      · exact fin 1 (by omega)
    · exact fin 0 (by omega)
theorem m_digitOf (hG : GOK Γ) {w : Wd} {vI kI : Int} {v k : Nat} (ev : vI = v) (ek : kI = k) (hv : v ≤ 1023) (hk : k ≤ 11) (h : Q (some (VI (sgd v k))) w M) : wp Γ mX10_digitOf 0 [some (VI vI), some (VI kI)] [] 0 0 w M Q := by
  subst ev ek
  refine vc_go hG 60 (B := bX10_digitOf) rfl ?_
  refine l_digitOf hG hv hk h (k + 1) 0 v 0 (by omega) ?_ (Or.inl rfl)
  rw [show (0 : Nat) + 1 = 1 from rfl, Nat.pow_one]
  omega
theorem m_isConstant (hG : GOK Γ) {w : Wd} {x : Int} (h1 : 1 ≤ x ∧ x ≤ 1023 → Q (some (VI 1)) w M) (h0 : ¬ (1 ≤ x ∧ x ≤ 1023) → Q (some (VI 0)) w M) : wp Γ mX10_isConstant 0 [some (VI x)] [] 0 0 w M Q := by
  refine vc_go hG 60 (B := bX10_isConstant) rfl ?_
  exact m_in hG (fun z => And.intro (Or.inr rfl) (h1 z)) (fun z => And.intro (Or.inl rfl) (h0 z))
theorem y_digit (hG : GOK Γ) (hc : MR M S) {v k : Int} (h : OutM Q L M (fDigit S v k)) : wp Γ mX10_digit 0 [some (VR 187), some (VI v), some (VI k)] [] 0 0 (W0 L) M Q := by
  have hc0 := hc.th
  have f0 := frM_th M
  refine vc_go hG 60 (B := bX10_digit) rfl ?_
  refine And.intro rfl ?_
  refine m_isConstant hG (fun z1 => ?_) (fun z1 => And.intro (fun c => h.go (cit_n (fun z => z1 z.1)) rfl hc0 f0) (fun c => absurd rfl c))
  refine And.intro (fun c => absurd c (by decide)) (fun c => ?_)
  refine m_in hG (fun z2 => ?_) (fun z2 => And.intro (fun c => h.go (cit_n (fun z => z2 z.2)) rfl hc0 f0) (fun c => absurd rfl c))
  refine And.intro (fun c => absurd c (by decide)) (fun c => ?_)
  refine m_digitOf hG (v := v.toNat) (k := k.toNat) (by omega) (by omega) (by omega) (by omega) ?_
  have b : -1 ≤ sgd v.toNat k.toNat ∧ sgd v.toNat k.toNat ≤ 1 := by unfold sgd; omega
  refine And.intro (by omega) ?_
  exact h.go (cit_y ⟨z1, z2⟩) rfl hc0 f0
theorem l_mdigits (hG : GOK Γ) {v : Nat} (hv : v ≤ 1023) (h : Q (some (VI (dgc v 12 : Nat))) (W0 L) M) : ∀ (j k : Nat), k + j = 12 → wp Γ mX10_digits 18 [some (VR 187), some (VI v), some (VI (dgc v k : Nat)), some (VI k)] [] 0 0 (W0 L) M Q := by
  intro j
  induction j with
  | zero =>
    intro k hk
    have e : k = 12 := by omega
    subst e
    refine vc_go hG 60 (B := bX10_digits) rfl ?_
    exact And.intro (fun y => h) (fun y => by omega)
  | succ j ih =>
    intro k hk
    have dl := dgc_le v k
    have ed : dgc v (k + 1) = dgc v k + (if sgd v k = 0 then 0 else 1) := rfl
    have nx := ih (k + 1) (by omega)
    rw [ed] at nx
    refine vc_go hG 60 (B := bX10_digits) rfl ?_
    refine And.intro (fun y => by omega) (fun y => ?_)
    refine m_digitOf hG rfl rfl hv (by omega) ?_
    refine And.intro (fun z => ?_) (fun z => ?_)
    · rw [if_pos z] at nx
      exact And.intro (by omega) (And.intro (by omega) nx)
    · rw [if_neg z] at nx
      exact And.intro (by omega) (And.intro (by omega) nx)
theorem y_digits (hG : GOK Γ) (hc : MR M S) {v : Int} (h : OutM Q L M (fDigits S v)) : wp Γ mX10_digits 0 [some (VR 187), some (VI v)] [] 0 0 (W0 L) M Q := by
  have hc0 := hc.th
  have f0 := frM_th M
  refine vc_go hG 60 (B := bX10_digits) rfl ?_
  refine And.intro rfl ?_
  refine m_isConstant hG (fun z1 => ?_) (fun z1 => And.intro (fun c => absurd rfl c) (fun c => h.go (cit_n z1) rfl hc0 f0))
  refine And.intro (fun c => ?_) (fun c => absurd c (by decide))
  have ev : v = ((v.toNat : Nat) : Int) := by omega
  have := l_mdigits (L := L) (M := upM M 187 0 0) hG (v := v.toNat) (by omega) (h.go (cit_y z1) rfl hc0 f0) 12 0 rfl
  rw [← ev] at this
  exact this
end Mod
