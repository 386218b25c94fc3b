/-! ===== the class's Near: TWO ===== -/
/-- a road that also stops at the places of S -/
def vcS (Γ : GG) (μ : Nat) (B : BK) (S : List Nat) (Q : QT) (k : Nat) : Bool → KT :=
  Nat.rec (motive := fun _ => Bool → KT) (fun _ pc ls st cs sl w M => wp Γ μ pc ls st cs sl w M Q)
    (fun _ ih first pc ls st cs sl w M => match lk2 pc B with
      | none => False
      | some ai => bif ((ai.2.2.1 || S.any (Nat.beq pc)) && !first) then wp Γ μ pc ls st cs sl w M Q else stepv Γ μ Q (ih false) ai.1 ai.2.2.2.1 ai.2.2.2.2 pc ls st cs sl w M) k
theorem vcS_ok {Γ : GG} {μ : Nat} {S : List Nat} {Q : QT} (hmna : r_mna_open Γ) (hck : bchk μ = true) : ∀ (k : Nat) (first : Bool) (pc : Nat) (ls : LL) (st : List AV) (cs sl : Nat) (w : Wd) (M : MM), vcS Γ μ (PL μ) S Q k first pc ls st cs sl w M → wp Γ μ pc ls st cs sl w M Q := by
  intro k
  induction k with
  | zero => intro first pc ls st cs sl w M h; exact h
  | succ k ih =>
    intro first pc ls st cs sl w M h
    have h : (match lk2 pc (PL μ) with
      | none => False
      | some ai => bif ((ai.2.2.1 || S.any (Nat.beq pc)) && !first) then wp Γ μ pc ls st cs sl w M Q else stepv Γ μ Q (vcS Γ μ (PL μ) S Q k false) ai.1 ai.2.2.2.1 ai.2.2.2.2 pc ls st cs sl w M) := h
    split at h
    · exact h.elim
    · rename_i ai hai
      obtain ⟨b, hb, hin⟩ := lk2_in hai
      unfold bchk at hck
      have hc1 := List.all_eq_true.mp hck b hb
      have hc : ichk μ pc ai = true := List.all_eq_true.mp hc1 (pc, ai) hin
      cases hq : ((ai.2.2.1 || S.any (Nat.beq pc)) && !first) with
      | true => rw [hq] at h; exact h
      | false => rw [hq] at h; exact step_ok hmna (ih false) hc h
theorem vc_goS {Γ : GG} (hG : GOK Γ) {μ pc : Nat} {ls : LL} {st : List AV} {cs sl : Nat} {w : Wd} {M : MM} {Q : QT} (k : Nat) (S : List Nat) {B : BK} (hB : PL μ = B) (h : vcS Γ μ B S Q k true pc ls st cs sl w M) : wp Γ μ pc ls st cs sl w M Q := by
  subst hB
  exact vcS_ok hG.1 (hG.2 μ) k true pc ls st cs sl w M h
def cnA (G : GT) (c k : Nat) (e : Nat) : Prop := isUs G e ∧ ∃ s, 1 ≤ s ∧ s < k ∧ (e * (2 ^ s + 1) = c ∨ e * (2 ^ s - 1) = c)
def cnW0 (G : GT) (c v : Nat) (e : Nat) : Prop := isUs G e ∧ (e = odp (c + v) ∨ e = odp ((c - v) + (v - c)))
def cnW (G : GT) (c v k : Nat) (e : Nat) : Prop := cnW0 G c v e ∨ (isUs G e ∧ ∃ s, s < k ∧ (e = c + v * 2 ^ s ∨ e = (c - v * 2 ^ s) + (v * 2 ^ s - c)))
theorem isUs_pos {G : GT} {e : Nat} (h : isUs G e) : 1 ≤ e := by
  have := h.1.1
  omega
section Near
variable {Γ : GG} {w : Wd} {M : MM} {Q : QT} {a g : Nat} {G : GT}
theorem l_bridgeAlone (hG : GOK Γ) (ha : NrL w a) (ht : NrF M a G) (hw : WFG G) {c : Nat} (hc : 1 ≤ c ∧ c ≤ 1023) (h : ∀ r, isMin (cnA G c 10) r → Q (some (VI r)) w M) : ∀ (j s : Nat) (r : Int), s + j = 10 → 1 ≤ s → isMin (cnA G c s) r → wp Γ mX4_bridgeAlone 7 [some (VR a), some (VI c), some (VI (qL G)), some (VI r), some (VI s)] [] 0 0 w M Q := by
  intro j
  induction j with
  | zero =>
    intro s r hs h1 hr
    have e : s = 10 := by omega
    subst e
    refine vc_go hG 60 (B := bX4_bridgeAlone) rfl ?_
    exact And.intro (fun b => h r hr) (fun b => by omega)
  | succ j ih =>
    intro s r hs h1 hr
    have hp := pw9 (s := s) (by omega)
    have hp2 : 2 ≤ 2 ^ s := by
      have : 2 ^ 1 ≤ 2 ^ s := Nat.pow_le_pow_right (by decide) h1
      omega
    have e1 : (1 : Int) * 2 ^ ((s : Int).toNat) = ((2 ^ s : Nat) : Int) := by
      have := shN 1 s
      rw [Nat.one_mul] at this
      exact this
    -- the first divisor
    have st1 : ∀ t, isMin (fun e => isUs G e ∧ e * (2 ^ s + 1) = c) t → isMin (fun e => cnA G c s e ∨ (isUs G e ∧ e * (2 ^ s + 1) = c)) (min r t) := fun t h9 => isMin_or hr h9
    have fin : ∀ t, isMin (fun e => (cnA G c s e ∨ (isUs G e ∧ e * (2 ^ s + 1) = c)) ∨ (isUs G e ∧ e * (2 ^ s - 1) = c)) t → isMin (cnA G c (s + 1)) t := fun t h9 => isMin_c h9 (fun e => by
      unfold cnA
      constructor
      · rintro ((⟨u, s', a1, a2, a3⟩ | ⟨u, a1⟩) | ⟨u, a1⟩)
        · exact ⟨u, s', a1, by omega, a3⟩
        · exact ⟨u, s, h1, by omega, Or.inl a1⟩
        · exact ⟨u, s, h1, by omega, Or.inr a1⟩
      · rintro ⟨u, s', a1, a2, a3⟩
        by_cases q : s' = s
        · subst q
          rcases a3 with a3 | a3
          · exact Or.inl (Or.inr ⟨u, a3⟩)
          · exact Or.inr ⟨u, a3⟩
        · exact Or.inl (Or.inl ⟨u, s', a1, by omega, a3⟩))
    have nd : ∀ d : Nat, 1 ≤ d → c % d ≠ 0 → ∀ e, ¬ (isUs G e ∧ e * d = c) := fun d hd hm e he => hm (by rw [← he.2]; exact Nat.mul_mod_left e d)
    have yd : ∀ d : Nat, 1 ≤ d → c % d = 0 → ∀ e, (e = c / d ∧ isUs G e) ↔ (isUs G e ∧ e * d = c) := fun d hd hm e => by
      constructor
      · rintro ⟨rfl, u⟩
        exact ⟨u, Nat.div_mul_cancel (Nat.dvd_of_mod_eq_zero hm)⟩
      · rintro ⟨u, he⟩
        exact ⟨by rw [← he, Nat.mul_div_cancel _ (by omega)], u⟩
    generalize 2 ^ s = t at hp hp2 e1 st1 fin
    -- behind the first divisor
    have go2 : ∀ r1, isMin (fun e => cnA G c s e ∨ (isUs G e ∧ e * (t + 1) = c)) r1 → wp Γ mX4_bridgeAlone 51 [some (VR a), some (VI c), some (VI (qL G)), some (VI r1), some (VI s), some (VI ((t : Int) + 1)), some (VI ((t : Int) - 1))] [] 0 0 w M Q := by
      intro r1 hr1
      have em : (c : Int) % ((t : Int) - 1) = ((c % (t - 1) : Nat) : Int) := by
        rw [show (t : Int) - 1 = ((t - 1 : Nat) : Int) by omega]
        rfl
      have ed : (c : Int) / ((t : Int) - 1) = ((c / (t - 1) : Nat) : Int) := by
        rw [show (t : Int) - 1 = ((t - 1 : Nat) : Int) by omega]
        rfl
      refine vc_go hG 60 (B := bX4_bridgeAlone) rfl ?_
      refine And.intro ⟨by omega, by omega⟩ ?_
      rw [em]
      refine And.intro (fun b => ?_) (fun b => ?_)
      · refine And.intro (by omega) ?_
        refine wp_pre [some (VR a), some (VI c), some (VI (qL G)), some (VI r1), some (VI ((s + 1 : Nat) : Int))] _ ?_
        refine ih (s + 1) r1 (by omega) (by omega) (fin r1 (isMin_c hr1 (fun e => ⟨Or.inl, fun z => z.elim id (fun z => absurd z (nd (t - 1) (by omega) (by omega) e))⟩)))
      · refine And.intro ⟨by omega, by omega⟩ ?_
        rw [ed]
        refine And.intro ha.k ?_
        refine c_usable hG ha ht hw rfl rfl (fun x _ hx => ?_)
        refine And.intro (by omega) ?_
        refine wp_pre [some (VR a), some (VI c), some (VI (qL G)), some (VI (min r1 x)), some (VI ((s + 1 : Nat) : Int))] _ ?_
        exact ih (s + 1) _ (by omega) (by omega) (fin _ (isMin_or hr1 (isMin_c hx (yd (t - 1) (by omega) (by omega)))))
    have em : (c : Int) % ((t : Int) + 1) = ((c % (t + 1) : Nat) : Int) := by
      rw [show (t : Int) + 1 = ((t + 1 : Nat) : Int) by omega]
      rfl
    have ed : (c : Int) / ((t : Int) + 1) = ((c / (t + 1) : Nat) : Int) := by
      rw [show (t : Int) + 1 = ((t + 1 : Nat) : Int) by omega]
      rfl
    refine vc_goS hG 60 [51] (B := bX4_bridgeAlone) rfl ?_
    refine And.intro (fun b => by omega) (fun b => ?_)
    refine And.intro ⟨by omega, by omega, by omega, by rw [e1]; omega⟩ ?_
    rw [e1]
    refine And.intro (by omega) ?_
    refine And.intro ⟨by omega, by omega, by omega, by rw [e1]; omega⟩ ?_
    rw [e1]
    refine And.intro (by omega) ?_
    refine And.intro ⟨by omega, by omega⟩ ?_
    rw [em]
    refine And.intro (fun b => ?_) (fun b => ?_)
    · exact go2 r (isMin_c hr (fun e => ⟨Or.inl, fun z => z.elim id (fun z => absurd z (nd (t + 1) (by omega) (by omega) e))⟩))
    · refine And.intro ⟨by omega, by omega⟩ ?_
      rw [ed]
      refine And.intro ha.k ?_
      refine c_usable hG ha ht hw rfl rfl (fun x _ hx => ?_)
      exact go2 _ (st1 x (isMin_c hx (yd (t + 1) (by omega) (by omega))))
theorem c_bridgeAlone (hG : GOK Γ) (ha : NrL w a) (ht : NrF M a G) (hw : WFG G) {cI lI : Int} {c : Nat} (ec : cI = c) (el : lI = qL G) (hc : 1 ≤ c ∧ c ≤ 1023) (h : ∀ r, isMin (cnA G c 10) r → Q (some (VI r)) w M) : wp Γ mX4_bridgeAlone 0 [some (VR a), some (VI cI), some (VI lI)] [] 0 0 w M Q := by
  subst ec el
  refine vc_go hG 60 (B := bX4_bridgeAlone) rfl ?_
  refine l_bridgeAlone hG ha ht hw hc h 9 1 1024 rfl (Nat.le_refl _) (Or.inl ⟨rfl, fun e he => ?_⟩)
  obtain ⟨-, s, h1, h2, -⟩ := he
  omega
theorem l_bridgeWith (hG : GOK Γ) (ha : NrL w a) (ht : NrF M a G) (hw : WFG G) {c v : Nat} (hc : 1 ≤ c ∧ c ≤ 1023) (hv : v ≤ 1023) (h : ∀ r, isMin (cnW G c v 10) r → Q (some (VI r)) w M) : ∀ (j s : Nat) (r : Int), s + j = 10 → isMin (cnW G c v s) r → wp Γ mX4_bridgeWith 37 [some (VR a), some (VI c), some (VI v), some (VI (qL G)), some (VI r), some (VI s)] [] 0 0 w M Q := by
  intro j
  induction j with
  | zero =>
    intro s r hs hr
    have e : s = 10 := by omega
    subst e
    refine vc_go hG 60 (B := bX4_bridgeWith) rfl ?_
    exact And.intro (fun b => h r hr) (fun b => by omega)
  | succ j ih =>
    intro s r hs hr
    have hp := pw9 (s := s) (by omega)
    have e1 := shN v s
    have hx : v * 2 ^ s ≤ 1023 * 512 := Nat.mul_le_mul hv hp.2
    have fin : ∀ t, isMin (fun e => (cnW G c v s e ∨ (e = c + v * 2 ^ s ∧ isUs G e)) ∨ (e = (c - v * 2 ^ s) + (v * 2 ^ s - c) ∧ isUs G e)) t → isMin (cnW G c v (s + 1)) t := fun t h9 => isMin_c h9 (fun e => by
      unfold cnW
      constructor
      · rintro (((u | ⟨u, s', a1, a2⟩) | ⟨a1, u⟩) | ⟨a1, u⟩)
        · exact Or.inl u
        · exact Or.inr ⟨u, s', by omega, a2⟩
        · exact Or.inr ⟨u, s, by omega, Or.inl a1⟩
        · exact Or.inr ⟨u, s, by omega, Or.inr a1⟩
      · rintro (u | ⟨u, s', a1, a2⟩)
        · exact Or.inl (Or.inl (Or.inl u))
        · by_cases q : s' = s
          · subst q
            rcases a2 with a2 | a2
            · exact Or.inl (Or.inr ⟨a2, u⟩)
            · exact Or.inr ⟨a2, u⟩
          · exact Or.inl (Or.inl (Or.inr ⟨u, s', by omega, a2⟩)))
    generalize v * 2 ^ s = t at hx e1 fin
    refine vc_go hG 60 (B := bX4_bridgeWith) rfl ?_
    refine And.intro (fun b => by omega) (fun b => ?_)
    refine And.intro ⟨by omega, by omega, by omega, by rw [e1]; omega⟩ ?_
    rw [e1]
    refine And.intro (by omega) ?_
    refine And.intro ha.k ?_
    refine c_usable hG ha ht hw (n := c + t) (by omega) rfl (fun x _ hx1 => ?_)
    refine And.intro (by omega) ?_
    refine And.intro (by omega) ?_
    refine And.intro ha.k ?_
    refine c_usable hG ha ht hw (n := (c - t) + (t - c)) (by split <;> omega) rfl (fun y _ hx2 => ?_)
    refine And.intro (by omega) ?_
    refine wp_pre [some (VR a), some (VI c), some (VI v), some (VI (qL G)), some (VI (min (min r x) y)), some (VI ((s + 1 : Nat) : Int))] _ ?_
    exact ih (s + 1) _ (by omega) (fin _ (isMin_or (isMin_or hr hx1) hx2))
theorem c_bridgeWith (hG : GOK Γ) (ha : NrL w a) (ht : NrF M a G) (hw : WFG G) {cI vI lI : Int} {c v : Nat} (ec : cI = c) (ev : vI = v) (el : lI = qL G) (hc : 1 ≤ c ∧ c ≤ 1023) (hv : v ≤ 1023) (h : ∀ r, isMin (cnW G c v 10) r → Q (some (VI r)) w M) : wp Γ mX4_bridgeWith 0 [some (VR a), some (VI cI), some (VI vI), some (VI lI)] [] 0 0 w M Q := by
  subst ec ev el
  refine vc_go hG 60 (B := bX4_bridgeWith) rfl ?_
  refine And.intro (by omega) ?_
  refine c_oddPart hG (n := c + v) (by omega) (by omega) ?_
  refine And.intro ha.k ?_
  refine c_usable hG ha ht hw rfl rfl (fun x _ hx1 => ?_)
  refine And.intro (by omega) ?_
  refine And.intro (by omega) ?_
  refine c_oddPart hG (n := (c - v) + (v - c)) (by split <;> omega) (by omega) ?_
  refine And.intro ha.k ?_
  refine c_usable hG ha ht hw rfl rfl (fun y _ hx2 => ?_)
  refine l_bridgeWith hG ha ht hw hc hv h 10 0 _ rfl (isMin_c (isMin_or hx1 hx2) (fun e => ?_))
  unfold cnW cnW0
  constructor
  · rintro (⟨a1, u⟩ | ⟨a1, u⟩)
    · exact Or.inl ⟨u, Or.inl a1⟩
    · exact Or.inl ⟨u, Or.inr a1⟩
  · rintro (⟨u, a1 | a1⟩ | ⟨u, s, a1, -⟩)
    · exact Or.inl ⟨a1, u⟩
    · exact Or.inr ⟨a1, u⟩
    · omega
end Near
