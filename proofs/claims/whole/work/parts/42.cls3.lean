/-! ===== the class: the rest ===== -/
theorem GrR.odd {M : MM} {g : Nat} {G : GT} (hr : GrR M g G) {k w : Nat} (hk : k ≤ qn G) (hw : w ≤ 6) : M (g + 2 + w) k = oddF G k w := by
  obtain ⟨r1, r2, r3, r4, r5, r6, r7⟩ := hr
  unfold oddF
  by_cases w0 : w = 0
  · subst w0; rw [if_pos rfl]; exact (r4 k hk).1
  rw [if_neg w0]
  by_cases w1 : w = 1
  · subst w1; rw [if_pos rfl]; exact (r4 k hk).2
  rw [if_neg w1]
  by_cases k0 : k = 0
  · subst k0
    rw [if_pos rfl]
    have : w = 2 ∨ w = 3 ∨ w = 4 ∨ w = 5 ∨ w = 6 := by omega
    rcases this with q | q | q | q | q
    · subst q; exact r5.1
    · subst q; exact r5.2.1
    · subst q; exact r5.2.2.1
    · subst q; exact r5.2.2.2.1
    · subst q; exact r5.2.2.2.2
  · rw [if_neg k0]
    obtain ⟨j, rfl⟩ : ∃ j, k = j + 1 := ⟨k - 1, by omega⟩
    have q6 := r6 j (by omega)
    rw [show j + 1 - 1 = j by omega]
    have : w = 2 ∨ w = 3 ∨ w = 4 ∨ w = 5 ∨ w = 6 := by omega
    rcases this with q | q | q | q | q
    · subst q; exact q6.1
    · subst q; exact q6.2.1
    · subst q; exact q6.2.2.1
    · subst q; exact q6.2.2.2.1
    · subst q; exact q6.2.2.2.2
def sgd (v k : Nat) : Int := ((3 * v / 2 ^ (k + 1) % 2 : Nat) : Int) - ((v / 2 ^ (k + 1) % 2 : Nat) : Int)
def dgc (v : Nat) : Nat → Nat
  | 0 => 0
  | k + 1 => dgc v k + (if sgd v k = 0 then 0 else 1)
theorem dgc_le (v : Nat) : ∀ k, dgc v k ≤ k
  | 0 => Nat.le_refl _
  | k + 1 => by
    have := dgc_le v k
    show dgc v k + (if sgd v k = 0 then 0 else 1) ≤ k + 1
    split <;> omega
noncomputable def fDigits (S : ST) (v : Int) : Int × ST := cit (1 ≤ v ∧ v ≤ 1023) ((dgc v.toNat 12 : Int), S) (-1, S)
noncomputable def fDigit (S : ST) (v k : Int) : Int × ST := cit ((1 ≤ v ∧ v ≤ 1023) ∧ inB k 11) (sgd v.toNat k.toNat + 1, S) (-1, S)
noncomputable def fProd (S : ST) (k x : Int) : Int := cit (inB k (qn (sG S)) ∧ -99999 ≤ x ∧ x ≤ 99999) ((qV (sG S) k.toNat : Int) * x) 0
section Cls
variable {Γ : GG} {L : Nat} {M : MM} {Q : QT} {S : ST}
theorem x_odd (hG : GOK Γ) (hc : CR M S) {k w : Int} (h : Out Q L M (fOdd S k w)) : wp Γ mX9_odd 0 [some (VR 1), some (VI k), some (VI w)] [] 0 0 (W0 L) M Q := by
  have gl := W0_g2 L
  obtain ⟨c1, c2, -⟩ := id hc
  have n12 := c2.1
  refine vc_go hG 60 (B := bX9_odd) rfl ?_
  refine And.intro rfl (Exists.intro _ (And.intro rfl (And.intro rfl ?_)))
  refine c_isThere hG gl c1 (fun z1 => ?_) (fun z1 => And.intro (fun _ => h.go (cit_n (fun z => z1 z.1)) rfl hc (frC_r M)) (fun c => absurd rfl c))
  refine And.intro (fun c => absurd c (by decide)) (fun c => ?_)
  refine And.intro (fun y => h.go (cit_n (fun z => by have := z.2.1; omega)) rfl hc (frC_r M)) (fun y1 => ?_)
  refine And.intro (fun y2 => ?_) (fun y => h.go (cit_n (fun z => by have := z.2.2; omega)) rfl hc (frC_r M))
  have e1 : fOdd S k w = _ := cit_y ⟨z1, ⟨y1, by omega⟩⟩
  refine And.intro rfl (Exists.intro _ (And.intro rfl (And.intro rfl (Exists.intro _ (And.intro rfl ?_)))))
  refine And.intro (Or.inl gl.ok) (Exists.intro w.toNat (And.intro (by omega) (And.intro (by rw [gl.ol]; omega) (Exists.intro _ (And.intro (gl.r w.toNat (by omega)) ?_)))))
  refine And.intro (Or.inl (gl.rk w.toNat (by omega))) (Exists.intro k.toNat (And.intro (by omega) (And.intro (by rw [gl.rl w.toNat (by omega)]; omega) ?_)))
  exact h.go e1 (c1.odd (by omega) (by omega)) hc (frC_r M)
theorem x_back (hG : GOK Γ) (hc : CR M S) {i : Int} (h : Out Q L M (fBack S i)) : wp Γ mX9_back 0 [some (VR 1), some (VI i)] [] 0 0 (W0 L) M Q := by
  obtain ⟨c1, c2, c3, c4, c5, c6, ⟨G7, c7, c7'⟩, ⟨G8, c8, c8'⟩, c9, c10⟩ := id hc
  refine vc_go hG 60 (B := bX9_back) rfl ?_
  refine And.intro (fun y => h.go (cit_n (fun z => by have := z.1; omega)) rfl hc (frC_r M)) (fun y1 => ?_)
  refine And.intro (fun y2 => ?_) (fun y => h.go (cit_n (fun z => by have := z.2; omega)) rfl hc (frC_r M))
  have e1 : fBack S i = _ := cit_y ⟨y1, by omega⟩
  obtain ⟨i1, i2, i3⟩ := c5 i.toNat (by omega)
  have hi : i.toNat < 2 := by omega
  refine And.intro rfl (Exists.intro _ (And.intro rfl (And.intro rfl (Exists.intro _ (And.intro rfl ?_)))))
  refine And.intro rfl (Exists.intro i.toNat (And.intro (by omega) (And.intro (show i.toNat < 2 from hi) ?_)))
  refine And.intro (fun z => ?_) (fun z => h.go (e1.trans (cit_n (by omega))) rfl hc (frC_r M))
  have e9 : sx S i.toNat = 1 := by omega
  have e2 := e1.trans (cit_y e9)
  obtain ⟨j1, j2⟩ := i3 e9
  refine And.intro rfl (Exists.intro _ (And.intro rfl (And.intro rfl (Exists.intro _ (And.intro rfl (And.intro rfl (Exists.intro _ (And.intro rfl ?_))))))))
  refine And.intro (Or.inr rfl) (Exists.intro i.toNat (And.intro (by omega) (And.intro (show i.toNat < 2 from hi) (Exists.intro _ (And.intro (W0_ir L i.toNat hi) ?_)))))
  refine And.intro rfl ?_
  refine c_copy hG (W0_g2 L) (W0_i L i.toNat hi) (by omega) j1 j2 (fun M1 g1 g2 => ?_)
  refine And.intro rfl (Exists.intro _ (And.intro rfl (And.intro rfl ?_)))
  refine c_hlose hG (M := M1) (c4.keep (fun a a1 a2 => g2 a (by omega))) (fun h1 => ?_)
  refine And.intro rfl ?_
  refine c_changed hG ?_
  have u : ∀ a, a ≠ 1 → upM (upM (upM M1 24 2 0) 1 9 1) 1 10 1 a = upM M1 24 2 0 a := fun a ha => by rw [upM_ne ha, upM_ne ha]
  have f : ∀ a, a ≠ 1 → a ≠ 24 → (a < 2 ∨ 11 < a) → upM (upM (upM M1 24 2 0) 1 9 1) 1 10 1 a = M a := fun a ha hb hd => by rw [u a ha, upM_ne hb, g2 a (by omega)]
  have g1' : GrR (upM (upM (upM M1 24 2 0) 1 9 1) 1 10 1) 2 (sI S i.toNat) := g1.keep (fun a a1 a2 => by rw [u a (by omega), upM_ne (by omega)])
  refine And.intro rfl (Exists.intro _ (And.intro rfl (And.intro rfl ?_)))
  refine h.go e2 g1'.1 ⟨g1', j2, c3.keep (by rw [f 22 (by omega) (by omega) (by omega)]) (f 23 (by omega) (by omega) (by omega)), h1.keep (fun a a1 a2 => u a (by omega)), c5.fr (fun a a1 a2 => f a (by omega) (by omega) (by omega)), c6.keep (fun a a1 a2 => f a (by omega) (by omega) (by omega)), ⟨G7, c7.keep (fun a a1 a2 => f a (by omega) (by omega) (by omega)), c7'⟩, ⟨G8, c8.keep (fun a a1 a2 => f a (by omega) (by omega) (by omega)), c8'⟩, Or.inr (by rw [upM_k (by decide), upM_eq]), Or.inr upM_eq⟩ (fun a ha => f a (by omega) (by omega) (by omega))
theorem x_count (hG : GOK Γ) (hc : CR M S) {w : Int} (h : Out Q L M (fCount S w)) : wp Γ mX9_count 0 [some (VR 1), some (VI w)] [] 0 0 (W0 L) M Q := by
  have gl := W0_g2 L
  obtain ⟨c1, c2, c3, c4, c5, c6, -⟩ := id hc
  obtain ⟨r, -, -, k3, -⟩ := id c4
  unfold fCount at h
  refine vc_go hG 60 (B := bX9_count) rfl ?_
  refine And.intro (fun y => ?_) (And.intro (fun y => ?_) (And.intro (fun y => ?_) (And.intro (fun y => ?_) (And.intro (fun y => ?_) (And.intro (fun y => ?_) (And.intro (fun y => ?_) (And.intro (fun y => ?_) (And.intro (fun y => ?_) trivial))))))))
  · rw [if_neg (by omega), if_neg (by omega), if_neg (by omega), if_neg (by omega), if_neg (by omega), if_neg (by omega), if_neg (by omega), if_neg (by omega)] at h
    exact h.go rfl rfl hc (frC_r M)
  · rw [if_pos (by omega)] at h
    refine And.intro rfl (Exists.intro _ (And.intro rfl (And.intro rfl ?_)))
    exact h.go rfl c1.1 hc (frC_r M)
  · rw [if_neg (by omega), if_pos (by omega)] at h
    refine And.intro rfl (Exists.intro _ (And.intro rfl (And.intro rfl ?_)))
    exact h.go rfl c1.2.1 hc (frC_r M)
  · rw [if_neg (by omega), if_neg (by omega), if_pos (by omega)] at h
    refine And.intro rfl (Exists.intro _ (And.intro rfl (And.intro rfl ?_)))
    exact h.go rfl c1.2.2.1 hc (frC_r M)
  · rw [if_neg (by omega), if_neg (by omega), if_neg (by omega), if_pos (by omega)] at h
    refine And.intro rfl (Exists.intro _ (And.intro rfl (And.intro rfl ?_)))
    exact c_notMet hG gl c1 c2 (h.go rfl rfl hc (frC_r M))
  · rw [if_neg (by omega), if_neg (by omega), if_neg (by omega), if_neg (by omega), if_pos (by omega)] at h
    refine And.intro rfl (Exists.intro _ (And.intro rfl (And.intro rfl ?_)))
    exact c_greatest hG gl c1 c2 (h.go rfl rfl hc (frC_r M))
  · rw [if_neg (by omega), if_neg (by omega), if_neg (by omega), if_neg (by omega), if_neg (by omega), if_pos (by omega)] at h
    refine And.intro rfl (Exists.intro _ (And.intro rfl (And.intro rfl ?_)))
    exact h.go rfl c6.1 hc (frC_r M)
  · rw [if_neg (by omega), if_neg (by omega), if_neg (by omega), if_neg (by omega), if_neg (by omega), if_neg (by omega), if_pos (by omega)] at h
    refine And.intro rfl (Exists.intro _ (And.intro rfl (And.intro rfl ?_)))
    exact h.go rfl c3.1 hc (frC_r M)
  · rw [if_neg (by omega), if_neg (by omega), if_neg (by omega), if_neg (by omega), if_neg (by omega), if_neg (by omega), if_neg (by omega), if_pos (by omega)] at h
    refine And.intro rfl (Exists.intro _ (And.intro rfl (And.intro rfl ?_)))
    exact h.go rfl k3 hc (frC_r M)
theorem x_by (hG : GOK Γ) (hc : CR M S) {v w : Int} (h : OutR Q L M S (byR (sG S) v w)) : wp Γ mX9_by 0 [some (VR 1), some (VI v), some (VI w)] [] 0 0 (W0 L) M Q := by
  refine vc_go hG 60 (B := bX9_by) rfl ?_
  refine c_isOddNumber hG (fun ho => ?_) (fun ho => And.intro (fun y => h _ M (Or.inl ⟨fun z => ho z.1, rfl⟩) hc (frC_r M)) (fun y => absurd rfl y))
  refine And.intro (fun y => absurd y (by decide)) (fun y => ?_)
  refine And.intro (fun y => h _ M (Or.inl ⟨fun z => by have := z.2.1; omega, rfl⟩) hc (frC_r M)) (fun y1 => ?_)
  refine And.intro (fun y2 => ?_) (fun y => h _ M (Or.inl ⟨fun z => by have := z.2.2; omega, rfl⟩) hc (frC_r M))
  refine And.intro rfl ?_
  refine c_fresh hG hc (fun M1 hc1 t f _ => ?_)
  obtain ⟨o1, o2, o3⟩ := id ho
  have hb : isOddN v ∧ inB w 3 := ⟨ho, y1, by omega⟩
  have hi : v.toNat / 2 < 512 := by omega
  have ev : v.toNat = 2 * (v.toNat / 2) + 1 := by omega
  refine And.intro rfl ?_
  refine c_way hG (W0_n153 L) t (i := v.toNat / 2) hi (by omega) ?_
  rcases t.cases hi with ⟨z, e⟩ | ⟨z, z1, -, e⟩ | ⟨z, p, q, s, g, z1, e, -⟩
  · rw [← ev] at z
    refine And.intro (fun x => by omega) (fun x => h _ M1 (Or.inr ⟨hb, Or.inl ⟨fun q => q.2.1 z, rfl⟩⟩) hc1 (fr3 f))
  · rw [← ev] at z z1
    refine And.intro (fun x => by omega) (fun x => h _ M1 (Or.inr ⟨hb, Or.inl ⟨fun q => ?_, rfl⟩⟩) hc1 (fr3 f))
    obtain ⟨p, q1, s, g, k⟩ := q.2.2
    exact z1 p q1 s g k
  · rw [← ev] at z z1
    have bb := byW_b hc.2.1 z1
    have fin : ∀ r : Int, r = selW w p q s g → Q (some (VI r)) (W0 L) M1 := fun r hr => h r M1 (Or.inr ⟨hb, Or.inr ⟨⟨⟨by omega, by omega⟩, z, p, q, s, g, z1⟩, p, q, s, g, z1, hr⟩⟩) hc1 (fr3 f)
    unfold selW at fin
    have hcd : cdw p q s g = 1024 * p + 64 * q + 4 * s + g := by unfold cdw; omega
    refine And.intro (fun x => ?_) (fun x => by omega)
    refine And.intro (fun y => ?_) (And.intro (fun y => ?_) (And.intro (fun y => ?_) (And.intro (fun y => ?_) trivial)))
    · refine c_wayF hG e (by omega) (fin _ ?_)
      rw [if_neg (by omega), if_neg (by omega), if_neg (by omega)]
      omega
    · refine c_wayP hG e (by omega) (fin _ ?_)
      rw [if_pos y]
      omega
    · refine c_wayQ hG e (by omega) (fin _ ?_)
      rw [if_neg (by omega), if_pos (by omega)]
      omega
    · refine c_wayS hG e (by omega) (fin _ ?_)
      rw [if_neg (by omega), if_neg (by omega), if_pos (by omega)]
      omega
theorem x_product (hG : GOK Γ) (hc : CR M S) {k x : Int} (h : ∀ M', CR M' S → frC M M' → Q (some (VL (fProd S k x))) (W0 L) M') : wp Γ mX9_product 0 [some (VR 1), some (VI k), some (VI x)] [] 0 0 (W0 L) M Q := by
  have gl := W0_g2 L
  obtain ⟨c1, c2, -⟩ := id hc
  have bad : ¬ (inB k (qn (sG S)) ∧ -99999 ≤ x ∧ x ≤ 99999) → Q (some (VL 0)) (W0 L) M := fun z => by
    have := h M hc (frC_r M)
    unfold fProd at this
    rw [cit_n z] at this
    exact this
  refine vc_go hG 60 (B := bX9_product) rfl ?_
  refine And.intro rfl (Exists.intro _ (And.intro rfl (And.intro rfl ?_)))
  refine c_isThere hG gl c1 (fun z1 => ?_) (fun z1 => And.intro (fun _ => bad (fun z => z1 z.1)) (fun c => absurd rfl c))
  refine And.intro (fun c => absurd c (by decide)) (fun c => ?_)
  refine And.intro (fun y => bad (fun z => by have y : x < -99999 := y; omega)) (fun y1 => ?_)
  refine And.intro (fun y2 => ?_) (fun y => bad (fun z => by have y : 99999 < x := y; omega))
  have y1 : -99999 ≤ x := y1
  have y2 : x ≤ 99999 := y2
  refine And.intro rfl (Exists.intro _ (And.intro rfl (And.intro rfl ?_)))
  have v1 := WFG_V c2 k.toNat (by omega)
  refine c_value hG gl c1 c2 (k := k.toNat) (by omega) (by omega) ?_
  have := h M hc (frC_r M)
  unfold fProd at this
  rw [cit_y ⟨z1, y1, y2⟩] at this
  refine And.intro ?_ this
  generalize qV (sG S) k.toNat = V at *
  have hv : (0 : Int) ≤ V ∧ (V : Int) ≤ 1023 := by omega
  constructor
  · have : -(1023 * 99999 : Int) ≤ (V : Int) * x := by
      rcases Int.le_total 0 x with q | q
      · have := Int.mul_nonneg hv.1 q
        omega
      · have h1 : (V : Int) * (-x) ≤ 1023 * 99999 := Int.mul_le_mul hv.2 (by omega) (by omega) (by omega)
        have h2 : (V : Int) * (-x) = -((V : Int) * x) := Int.mul_neg _ _
        omega
    omega
  · have : (V : Int) * x ≤ 1023 * 99999 := by
      rcases Int.le_total 0 x with q | q
      · exact Int.mul_le_mul hv.2 (by omega) (by omega) (by omega)
      · have h1 : 0 ≤ (V : Int) * (-x) := Int.mul_nonneg hv.1 (by omega)
        have h2 : (V : Int) * (-x) = -((V : Int) * x) := Int.mul_neg _ _
        omega
    omega
theorem c_sgd (hG : GOK Γ) {w : Wd} {vI kI : Int} {v k : Nat} (ev : vI = v) (ek : kI = k) (hv : v ≤ 1023) (hk : k ≤ 11) (h : Q (some (VI (sgd v k))) w M) : wp Γ mX9_signedDigit 0 [some (VI vI), some (VI kI)] [] 0 0 w M Q := by
  subst ev ek
  refine vc_go hG 60 (B := bX9_signedDigit) rfl ?_
  refine And.intro (by omega) (And.intro (by omega) (And.intro ⟨by omega, by omega, by omega⟩ ?_))
  have a1 : (3 : Int) * (v : Int) / 2 ^ (((k : Int) + 1).toNat) = ((3 * v / 2 ^ (k + 1) : Nat) : Int) := srN (3 * v) (k + 1)
  have a2 : (v : Int) / 2 ^ (((k : Int) + 1).toNat) = ((v / 2 ^ (k + 1) : Nat) : Int) := srN v (k + 1)
  have b1 : 3 * v / 2 ^ (k + 1) ≤ 3 * v := Nat.div_le_self _ _
  have b2 : v / 2 ^ (k + 1) ≤ v := Nat.div_le_self _ _
  have e1 := andI_1N (n := 3 * v / 2 ^ (k + 1)) (by omega)
  have e2 := andI_1N (n := v / 2 ^ (k + 1)) (by omega)
  rw [a1]
  refine And.intro (by omega) (And.intro ⟨by omega, by omega, by omega⟩ ?_)
  rw [a2]
  refine And.intro (by rw [e1, e2]; omega) ?_
  unfold sgd at h
  rw [← e1, ← e2] at h
  exact h
theorem x_digit (hG : GOK Γ) (hc : CR M S) {v k : Int} (h : Out Q L M (fDigit S v k)) : wp Γ mX9_digit 0 [some (VR 1), some (VI v), some (VI k)] [] 0 0 (W0 L) M Q := by
  refine vc_go hG 60 (B := bX9_digit) rfl ?_
  refine And.intro (fun y => h.go (cit_n (fun z => by omega)) rfl hc (frC_r M)) (fun y1 => ?_)
  refine And.intro (fun y => h.go (cit_n (fun z => by omega)) rfl hc (frC_r M)) (fun y2 => ?_)
  refine And.intro (fun y => h.go (cit_n (fun z => by have := z.2.1; omega)) rfl hc (frC_r M)) (fun y3 => ?_)
  refine And.intro (fun y4 => ?_) (fun y => h.go (cit_n (fun z => by have := z.2.2; omega)) rfl hc (frC_r M))
  refine c_sgd hG (v := v.toNat) (k := k.toNat) (by omega) (by omega) (by omega) (by omega) ?_
  have b : -1 ≤ sgd v.toNat k.toNat ∧ sgd v.toNat k.toNat ≤ 1 := by unfold sgd; omega
  refine And.intro (by omega) ?_
  exact h.go (cit_y ⟨⟨y1, y2⟩, y3, by omega⟩) rfl hc (frC_r M)
theorem l_digits (hG : GOK Γ) {v : Nat} (hv : v ≤ 1023) (h : Q (some (VI (dgc v 12 : Nat))) (W0 L) M) : ∀ (j k : Nat), k + j = 12 → wp Γ mX9_digits 18 [some (VR 1), some (VI v), some (VI (dgc v k : Nat)), some (VI k)] [] 0 0 (W0 L) M Q := by
  intro j
  induction j with
  | zero =>
    intro k hk
    have e : k = 12 := by omega
    subst e
    refine vc_go hG 60 (B := bX9_digits) rfl ?_
    exact And.intro (fun y => h) (fun y => by omega)
  | succ j ih =>
    intro k hk
    have dl := dgc_le v k
    have ed : dgc v (k + 1) = dgc v k + (if sgd v k = 0 then 0 else 1) := rfl
    have nx := ih (k + 1) (by omega)
    rw [ed] at nx
    refine vc_go hG 60 (B := bX9_digits) rfl ?_
    refine And.intro (fun y => by omega) (fun y => ?_)
    refine c_sgd hG rfl rfl hv (by omega) ?_
    refine And.intro (fun z => ?_) (fun z => ?_)
    · rw [if_pos z] at nx
      exact And.intro (by omega) nx
    · rw [if_neg z] at nx
      exact And.intro (by omega) (And.intro (by omega) nx)
theorem x_digits (hG : GOK Γ) (hc : CR M S) {v : Int} (h : Out Q L M (fDigits S v)) : wp Γ mX9_digits 0 [some (VR 1), some (VI v)] [] 0 0 (W0 L) M Q := by
  refine vc_go hG 60 (B := bX9_digits) rfl ?_
  refine And.intro (fun y => h.go (cit_n (fun z => by omega)) rfl hc (frC_r M)) (fun y1 => ?_)
  refine And.intro (fun y2 => ?_) (fun y => h.go (cit_n (fun z => by omega)) rfl hc (frC_r M))
  have ev : v = ((v.toNat : Nat) : Int) := by omega
  have := l_digits (L := L) (M := M) hG (v := v.toNat) (by omega) (h.go (cit_y ⟨y1, y2⟩) rfl hc (frC_r M)) 12 0 rfl
  rw [← ev] at this
  exact this
end Cls
