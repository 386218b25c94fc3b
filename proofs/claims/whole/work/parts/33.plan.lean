/-! ===== the class's Plan ===== -/
theorem W0_n153 (L : Nat) : NrL (W0 L) 153 := ⟨rfl, rfl, rfl, rfl, rfl, rfl, rfl⟩
theorem W0_n167 (L : Nat) : NrL (W0 L) 167 := ⟨rfl, rfl, rfl, rfl, rfl, rfl, rfl⟩
theorem W0_n181 (L : Nat) : NrL (W0 L) 181 := ⟨rfl, rfl, rfl, rfl, rfl, rfl, rfl⟩
theorem W0_n184 (L : Nat) : NrL (W0 L) 184 := ⟨rfl, rfl, rfl, rfl, rfl, rfl, rfl⟩
/-- odd parts of the first k wanted that are NEAR; that have TWO -/
def nrP (G : GT) (b : Nat) (e : Nat) : Prop := ∃ k, k < b ∧ odp (qC G k) = e ∧ isNr G e
def hasT (G : GT) (e : Nat) : Prop := ∃ t : Nat, isTwo G e t
def twP (G : GT) (b : Nat) (e : Nat) : Prop := ∃ k, k < b ∧ odp (qC G k) = e ∧ hasT G e
def fst1 (P : Nat → Prop) (e : Nat) : Prop := P e ∧ ∀ e', e' < e → ¬ P e'
theorem fst1_u {P : Nat → Prop} {e e' : Nat} (h : fst1 P e) (h' : fst1 P e') : e = e' := by
  rcases Nat.lt_trichotomy e e' with q | q | q
  · exact absurd h.1 (h'.2 e q)
  · exact q
  · exact absurd h'.1 (h.2 e' q)
/-- what is made next -/
def isCh (G : GT) (x : Int) : Prop := (∃ e : Nat, fst1 (nrP G (qm G)) e ∧ x = e) ∨ ((∀ e, ¬ nrP G (qm G) e) ∧ ((∃ e, fst1 (twP G (qm G)) e ∧ isTwo G e x) ∨ ((∀ e, ¬ twP G (qm G) e) ∧ x = -9)))
theorem isTwo_u {G : GT} {v : Nat} {r r' : Int} (h : isTwo G v r) (h' : isTwo G v r') : r = r' := isLst_u h h'
theorem isCh_u {G : GT} {x y : Int} (h : isCh G x) (h' : isCh G y) : x = y := by
  rcases h with ⟨e, h1, h2⟩ | ⟨h1, h2⟩ <;> rcases h' with ⟨e', k1, k2⟩ | ⟨k1, k2⟩
  · have := fst1_u h1 k1; omega
  · exact absurd h1.1 (k1 e)
  · exact absurd k1.1 (h1 e')
  · rcases h2 with ⟨e, a1, a2⟩ | ⟨a1, a2⟩ <;> rcases k2 with ⟨e', b1, b2⟩ | ⟨b1, b2⟩
    · have := fst1_u a1 b1
      subst this
      exact isTwo_u a2 b2
    · exact absurd a1.1 (b1 e)
    · exact absurd b1.1 (a1 e')
    · omega
theorem hasT_iff {G : GT} {e : Nat} {r : Int} (h : isTwo G e r) : hasT G e ↔ r ≠ -9 := by
  constructor
  · rintro ⟨t, ht⟩
    have := isTwo_u h ht
    omega
  · intro hr
    rcases id h with ⟨h1, -⟩ | ⟨t, h1, -⟩
    · exact absurd h1 hr
    · exact ⟨t, by rw [← h1]; exact h⟩
theorem isTwo_us {G : GT} {v t : Nat} (h : isTwo G v t) : isUs G t := by
  rcases h with ⟨h1, -⟩ | ⟨e, h1, h2, -⟩
  · omega
  · have : t = e := by omega
    subst this
    obtain ⟨-, d, -, -, h3⟩ := h2
    exact cnK_us h3
theorem isUs_nr {G : GT} {e : Nat} (h : isUs G e) : isNr G e := by
  obtain ⟨h1, h2, p, q, s, f, h3, -⟩ := h
  exact ⟨h1, h2, p, q, s, f, h3⟩
theorem isCh_nr {G : GT} {x : Nat} (h : isCh G x) : isNr G x := by
  rcases h with ⟨e, h1, h2⟩ | ⟨-, ⟨e, -, h2⟩ | ⟨-, h2⟩⟩
  · obtain ⟨⟨k, -, -, h3⟩, -⟩ := h1
    have : x = e := by omega
    rw [this]; exact h3
  · exact isUs_nr (isTwo_us h2)
  · omega
theorem wC {G : GT} (hw : WFG G) {k : Nat} (hk : k < qm G) : odp (qC G k) % 2 = 1 ∧ odp (qC G k) ≤ 1023 := by
  have h1 := hw.2.2.2.2.2.2.1 k hk
  exact ⟨odp_odd (by omega) (by omega), Nat.le_trans (odp_le _) h1.2⟩
section Plan
variable {Γ : GG} {L : Nat} {M : MM} {Q : QT} {G : GT}
theorem l_choice (hG : GOK Γ) (ht : NrF M 167 G) (hr : GrR M 157 G) (hw : WFG G) (h : ∀ x, isCh G x → Q (some (VI x)) (W0 L) M) : ∀ (j k : Nat) (ln lf : Int), k + j = qm G → isMin (nrP G k) ln → (0 ≤ lf ∧ lf ≤ 1024) → ((∀ e, ¬ nrP G k e) → isMin (twP G k) lf) → wp Γ mX5_choice 10 [some (VR 156), some (VI ln), some (VI lf), some (VI k)] [] 0 0 (W0 L) M Q := by
  have e3 := hr.2.1
  have hm6 := hw.2.1
  intro j
  induction j with
  | zero =>
    intro k ln lf hk h1 hb h2
    have e : k = qm G := by omega
    subst e
    refine vc_go hG 60 (B := bX5_choice) rfl ?_
    refine And.intro rfl (Exists.intro _ (And.intro rfl (And.intro rfl ?_)))
    refine And.intro (fun b => ?_) (fun b => by omega)
    refine And.intro (fun c => ?_) (fun c => ?_)
    · have no : ∀ e, ¬ nrP G (qm G) e := by
        rcases h1 with ⟨-, h1⟩ | ⟨e, g1, g0, -⟩
        · exact h1
        · omega
      have h2 := h2 no
      refine And.intro (fun d => ?_) (fun d => ?_)
      · rcases h2 with ⟨-, h2⟩ | ⟨e, g1, g0, -⟩
        · exact h (-9) (Or.inr ⟨no, Or.inr ⟨h2, rfl⟩⟩)
        · omega
      · rcases h2 with ⟨g1, -⟩ | ⟨e, g1, g0, g2, g3⟩
        · omega
        · refine And.intro rfl (Exists.intro _ (And.intro rfl (And.intro rfl (Exists.intro _ (And.intro rfl ?_)))))
          refine And.intro rfl ?_
          obtain ⟨k9, k1, k2, k3⟩ := id g2
          have wc := wC hw k1
          rw [k2] at wc
          refine c_bridge hG (W0_n167 L) (W0_g157 L) ht hr hw (v := e) (by omega) wc (fun r hr9 => ?_)
          exact h r (Or.inr ⟨no, Or.inl ⟨e, ⟨g2, g3⟩, hr9⟩⟩)
    · rcases h1 with ⟨g1, -⟩ | ⟨e, g1, g0, g2, g3⟩
      · omega
      · exact h _ (Or.inl ⟨e, ⟨g2, g3⟩, g1⟩)
  | succ j ih =>
    intro k ln lf hk h1 hb h2
    have hk9 : k < qm G := by omega
    have wc := wC hw hk9
    have w1 := hw.2.2.2.2.2.2.1 k hk9
    have ec := hr.2.2.2.2.2.2 k hk9
    have nrS : ∀ e, (nrP G k e ∨ (e = odp (qC G k) ∧ isNr G e)) ↔ nrP G (k + 1) e := fun e => by
      unfold nrP
      constructor
      · rintro (⟨i, a1, a2, a3⟩ | ⟨a1, a2⟩)
        · exact ⟨i, by omega, a2, a3⟩
        · exact ⟨k, by omega, a1.symm, a2⟩
      · rintro ⟨i, a1, a2, a3⟩
        by_cases q : i = k
        · subst q; exact Or.inr ⟨a2.symm, a3⟩
        · exact Or.inl ⟨i, by omega, a2, a3⟩
    have twS : ∀ e, (twP G k e ∨ (e = odp (qC G k) ∧ hasT G e)) ↔ twP G (k + 1) e := fun e => by
      unfold twP
      constructor
      · rintro (⟨i, a1, a2, a3⟩ | ⟨a1, a2⟩)
        · exact ⟨i, by omega, a2, a3⟩
        · exact ⟨k, by omega, a1.symm, a2⟩
      · rintro ⟨i, a1, a2, a3⟩
        by_cases q : i = k
        · subst q; exact Or.inr ⟨a2.symm, a3⟩
        · exact Or.inl ⟨i, by omega, a2, a3⟩
    have next : ∀ ln' lf', isMin (nrP G (k + 1)) ln' → (0 ≤ lf' ∧ lf' ≤ 1024) → ((∀ e, ¬ nrP G (k + 1) e) → isMin (twP G (k + 1)) lf') → wp Γ mX5_choice 84 [some (VR 156), some (VI ln'), some (VI lf'), some (VI k), some (VI ((odp (qC G k) : Nat) : Int))] [] 0 0 (W0 L) M Q := by
      intro ln' lf' n1 n2 n3
      refine vc_go hG 60 (B := bX5_choice) rfl ?_
      refine And.intro (by omega) ?_
      refine wp_pre [some (VR 156), some (VI ln'), some (VI lf'), some (VI ((k + 1 : Nat) : Int))] _ ?_
      exact ih (k + 1) ln' lf' (by omega) n1 n2 n3
    refine vc_goS hG 60 [84] (B := bX5_choice) rfl ?_
    refine And.intro rfl (Exists.intro _ (And.intro rfl (And.intro rfl ?_)))
    refine And.intro (fun b => by omega) (fun b => ?_)
    refine And.intro rfl (Exists.intro _ (And.intro rfl (And.intro rfl (Exists.intro _ (And.intro rfl ?_)))))
    refine And.intro (Or.inl rfl) (Exists.intro k (And.intro rfl (And.intro (show k < 6 by omega) ?_)))
    refine c_oddPart hG ec (by omega) ?_
    refine And.intro rfl (Exists.intro _ (And.intro rfl ?_))
    refine And.intro rfl ?_
    refine c_has hG (W0_n167 L) ht (fun n en hn => ?_) (fun hn => ?_)
    · have : n = odp (qC G k) := by omega
      subst this
      refine And.intro (fun c => absurd c (by decide)) (fun c => ?_)
      refine next _ _ (isMin_c (isMin_or h1 (t := ((odp (qC G k) : Nat) : Int)) (T := fun e => e = odp (qC G k) ∧ isNr G e) (Or.inr ⟨odp (qC G k), rfl, wc.2, ⟨rfl, hn⟩, fun e' he' hh => by have := hh.1; omega⟩)) nrS) hb (fun no => absurd ((nrS _).mp (Or.inr ⟨rfl, hn⟩)) (no _))
    · have hnn : ¬ isNr G (odp (qC G k)) := hn _ rfl
      have h1' : isMin (nrP G (k + 1)) ln := isMin_c h1 (fun e => ⟨fun z => (nrS e).mp (Or.inl z), fun z => ((nrS e).mpr z).elim id (fun z => by obtain ⟨rfl, z⟩ := z; exact absurd z hnn)⟩)
      have no' : (∀ e, ¬ nrP G (k + 1) e) → ∀ e, ¬ nrP G k e := fun no e z => no e ((nrS e).mp (Or.inl z))
      refine And.intro (fun c => ?_) (fun c => absurd rfl c)
      refine And.intro (fun d => ?_) (fun d => ?_)
      · refine next _ _ h1' hb (fun no => ?_)
        have h3 := h2 (no' no)
        rcases h3 with ⟨g1, -⟩ | ⟨e, g1, g0, g2, g3⟩
        · omega
        · refine Or.inr ⟨e, g1, g0, (twS e).mp (Or.inl g2), fun e' he' z => ?_⟩
          rcases (twS e').mpr z with z | ⟨z1, z2⟩
          · exact g3 e' he' z
          · omega
      · refine And.intro rfl (Exists.intro _ (And.intro rfl (And.intro rfl (Exists.intro _ (And.intro rfl ?_)))))
        refine And.intro rfl ?_
        refine c_bridge hG (W0_n167 L) (W0_g157 L) ht hr hw rfl wc (fun r hr9 => ?_)
        refine And.intro (fun x => ?_) (fun x => ?_)
        · refine next _ _ h1' hb (fun no => isMin_c (h2 (no' no)) (fun e => ⟨fun z => (twS e).mp (Or.inl z), fun z => ((twS e).mpr z).elim id (fun z => ?_)⟩))
          obtain ⟨rfl, z⟩ := z
          exact absurd x ((hasT_iff hr9).mp z)
        · refine next _ _ h1' ⟨by omega, by omega⟩ (fun no => ?_)
          have h3 := h2 (no' no)
          refine Or.inr ⟨odp (qC G k), rfl, wc.2, (twS _).mp (Or.inr ⟨rfl, (hasT_iff hr9).mpr x⟩), fun e' he' z => ?_⟩
          rcases (twS e').mpr z with z | ⟨z1, z2⟩
          · rcases h3 with ⟨-, g1⟩ | ⟨e, g1, g0, g2, g3⟩
            · exact g1 e' z
            · exact g3 e' (by omega) z
          · omega
theorem c_choice (hG : GOK Γ) (ht : NrF M 167 G) (hr : GrR M 157 G) (hw : WFG G) (h : ∀ x, isCh G x → Q (some (VI x)) (W0 L) M) : wp Γ mX5_choice 0 [some (VR 156)] [] 0 0 (W0 L) M Q := by
  refine vc_go hG 60 (B := bX5_choice) rfl ?_
  refine l_choice hG ht hr hw h (qm G) 0 1024 1024 (by omega) (Or.inl ⟨rfl, ?_⟩) (by decide) (fun _ => Or.inl ⟨rfl, ?_⟩)
  · rintro e ⟨k, h1, -⟩; omega
  · rintro e ⟨k, h1, -⟩; omega
theorem c_wayN (hG : GOK Γ) {w : Wd} {a : Nat} {v : Int} (hv : ¬ isOddN v) (h : Q (some (VI (-1))) w M) : wp Γ mX4_way 0 [some (VR a), some (VI v)] [] 0 0 w M Q := by
  refine vc_go hG 60 (B := bX4_way) rfl ?_
  refine c_isOddNumber hG (fun ho => absurd ho hv) (fun ho => ?_)
  exact And.intro (fun b => h) (fun b => absurd rfl b)
end Plan
