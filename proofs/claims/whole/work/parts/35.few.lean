/-! ===== the class's Fewest ===== -/
def E9 : GT := (0, fun _ => 0, fun _ => 0, fun _ => 0, fun _ => 0, fun _ => 1, fun _ => 0, 0, fun _ => 0, 9)
theorem E9_wf : WFG E9 := ⟨by decide, by decide, by decide, rfl, rfl, fun k hk => absurd hk (Nat.not_lt_zero k), fun k hk => absurd hk (Nat.not_lt_zero k), fun i j hi => absurd hi (Nat.not_lt_zero i)⟩
theorem GrR_E9 {M : MM} {g : Nat} {G : GT} (hr : GrR M g G) (hw : WFG G) (h2 : M g 2 = 0) (h3 : M g 3 = 0) (h4 : M g 4 = 9) : GrR M g E9 := by
  obtain ⟨r1, r2, r3, r4, r5, -, -⟩ := hr
  refine ⟨h2, h3, h4, fun k hk => ?_, r5, fun k hk => absurd hk (Nat.not_lt_zero k), fun k hk => absurd hk (Nat.not_lt_zero k)⟩
  have : k = 0 := Nat.le_zero.mp hk
  subst this
  obtain ⟨a, b⟩ := r4 0 (Nat.zero_le _)
  rw [hw.2.2.2.1] at a
  rw [hw.2.2.2.2.1] at b
  exact ⟨a, b⟩
theorem GrR_E9' {M M' : MM} {g : Nat} {G : GT} (hr : GrR M g G) (hw : WFG G) (hf : ∀ a, g < a → a ≤ g + 9 → M' a = M a) (h2 : M' g 2 = 0) (h3 : M' g 3 = 0) (h4 : M' g 4 = 9) : GrR M' g E9 := by
  obtain ⟨r1, r2, r3, r4, r5, -, -⟩ := hr
  refine ⟨h2, h3, h4, fun k hk => ?_, ?_, fun k hk => absurd hk (Nat.not_lt_zero k), fun k hk => absurd hk (Nat.not_lt_zero k)⟩
  · have : k = 0 := Nat.le_zero.mp hk
    subst this
    obtain ⟨a, b⟩ := r4 0 (Nat.zero_le _)
    rw [hw.2.2.2.1] at a
    rw [hw.2.2.2.2.1] at b
    rw [hf _ (by omega) (by omega), hf _ (by omega) (by omega)]
    exact ⟨a, b⟩
  · rw [hf (g + 4) (by omega) (by omega), hf (g + 5) (by omega) (by omega), hf (g + 6) (by omega) (by omega), hf (g + 7) (by omega) (by omega), hf (g + 8) (by omega) (by omega)]
    exact r5
/-- made by three adders: b by the first, v by two over it -/
def by3 (v b : Nat) : Prop := isNr E9 b ∧ ∃ p q s f, byW E9 b p q s f ∧ hasT (addG E9 p s q f) v
def isFew (v : Nat) (r : Int) : Prop := (v = 1 ∧ r = 0) ∨ (v ≠ 1 ∧ ((isNr E9 v ∧ r = 1) ∨ (¬ isNr E9 v ∧ ((hasT E9 v ∧ r = 2) ∨ (¬ hasT E9 v ∧ (((∃ b, by3 v b) ∧ r = 3) ∨ ((∀ b, ¬ by3 v b) ∧ r = -9)))))))
theorem isFew_u {v : Nat} {r r' : Int} (h : isFew v r) (h' : isFew v r') : r = r' := by
  rcases h with ⟨a1, a2⟩ | ⟨a1, ⟨a2, a3⟩ | ⟨a2, ⟨a3, a4⟩ | ⟨a3, ⟨⟨b, a4⟩, a5⟩ | ⟨a4, a5⟩⟩⟩⟩ <;> rcases h' with ⟨b1, b2⟩ | ⟨b1, ⟨b2, b3⟩ | ⟨b2, ⟨b3, b4⟩ | ⟨b3, ⟨⟨c, b4⟩, b5⟩ | ⟨b4, b5⟩⟩⟩⟩ <;> first | omega | contradiction | exact absurd a4 (b4 _) | exact absurd b4 (a4 _)
section Fewest
variable {Γ : GG} {L : Nat} {M : MM} {Q : QT}
theorem l_three (hG : GOK Γ) {v : Nat} (hv : v % 2 = 1 ∧ v ≤ 1023) (M0 : MM)
    (h1 : ∀ M', (∃ b, by3 v b) → (∃ G, GrR M' 171 G ∧ WFG G) → (∀ b, b < 171 ∨ 186 < b → M' b = M0 b) → Q (some (VI 1)) (W0 L) M')
    (h0 : ∀ M', (∀ b, ¬ by3 v b) → (∃ G, GrR M' 171 G ∧ WFG G) → (∀ b, b < 171 ∨ 186 < b → M' b = M0 b) → Q (some (VI 0)) (W0 L) M') :
    ∀ (j i : Nat) (G : GT) (M1 : MM), i + j = 511 → WFG G → qm G = 0 → qL G = 9 → GrR M1 171 G → NrF M1 181 E9 → (∀ b, b < 171 ∨ 186 < b → M1 b = M0 b) → (∀ b, b < 2 * i + 3 → ¬ by3 v b) → wp Γ mX0_isMadeByThree 2 [some (VR 170), some (VI v), some (VI ((2 * i + 3 : Nat) : Int))] [] 0 0 (W0 L) M1 Q := by
  have gl := W0_g171 L
  have n1 := W0_n181 L
  have n4 := W0_n184 L
  intro j
  induction j with
  | zero =>
    intro i G M1 hj hw hm hl hr ht hf hno
    refine vc_go hG 60 (B := bX0_isMadeByThree) rfl ?_
    refine And.intro (fun b => ?_) (fun b => by omega)
    refine And.intro (Or.inl rfl) (h0 M1 (fun b hb => ?_) ⟨G, hr, hw⟩ hf)
    have := hb.1.1
    exact hno b (by omega) hb
  | succ j ih =>
    intro i G M1 hj hw hm hl hr ht hf hno
    have next : ∀ (G : GT) (M1 : MM), WFG G → qm G = 0 → qL G = 9 → GrR M1 171 G → NrF M1 181 E9 → (∀ b, b < 171 ∨ 186 < b → M1 b = M0 b) → ¬ by3 v (2 * i + 3) → wp Γ mX0_isMadeByThree 85 [some (VR 170), some (VI v), some (VI ((2 * i + 3 : Nat) : Int))] [] 0 0 (W0 L) M1 Q := by
      intro G M1 hw hm hl hr ht hf hno1
      refine vc_go hG 60 (B := bX0_isMadeByThree) rfl ?_
      refine And.intro (by omega) ?_
      refine ih (i + 1) G M1 (by omega) hw hm hl hr ht hf (fun b hb => ?_)
      by_cases e : b = 2 * i + 3
      · subst e; exact hno1
      · by_cases e2 : b = 2 * i + 4
        · subst e2
          intro hb
          have := hb.1.1.1
          omega
        · exact hno b (by omega)
    refine vc_goS hG 60 [85] (B := bX0_isMadeByThree) rfl ?_
    refine And.intro (fun b => by omega) (fun b => ?_)
    refine And.intro rfl (Exists.intro _ (And.intro rfl ?_))
    refine And.intro rfl ?_
    refine c_has hG n1 ht (fun n en hn => ?_) (fun hn => ?_)
    · have en : n = 2 * i + 3 := by omega
      subst en
      refine And.intro (fun c => absurd c (by decide)) (fun c => ?_)
      refine And.intro rfl (Exists.intro _ (And.intro rfl ?_))
      refine And.intro rfl ?_
      refine And.intro rfl (Exists.intro _ (And.intro rfl (And.intro rfl (Exists.intro _ (And.intro rfl ?_)))))
      refine And.intro rfl ?_
      have t2 : NrF (upM M1 171 2 0) 181 E9 := NrT.keep ht (upM_ne (by decide)) (upM_ne (by decide))
      have r2 : GrR (upM M1 171 2 0) 171 E9 := GrR_E9' hr hw (fun a a1 a2 => upM_ne (by omega)) upM_eq (by rw [upM_k (by decide), hr.2.1, hm]; rfl) (by rw [upM_k (by decide), hr.2.2.1, hl]; rfl)
      refine c_way hG n1 t2 (i := i + 1) (by omega) (by omega) ?_
      obtain ⟨⟨o1, o2⟩, o3, p, q, s, f, o4⟩ := id hn
      have ew : upM M1 171 2 0 (181 + 1) (i + 1) = (cdw p q s f : Nat) := by
        rcases t2.cases (i := i + 1) (by omega) with ⟨z, -⟩ | ⟨-, z, -⟩ | ⟨-, p', q', s', f', z1, z2, -⟩
        · exact absurd z o3
        · exact absurd o4 (z p q s f)
        · obtain ⟨e1, e2, e3, e4⟩ := byW_u E9_wf o4 z1
          subst e1 e2 e3 e4
          exact z2
      have bb := byW_b E9_wf o4
      have hx1 : cms (qV E9 p) s (qV E9 q) f ≤ 1023 := o4.1.2.2.2.2.2.1
      refine And.intro rfl ?_
      refine c_appendW hG gl r2 E9_wf ew bb.1 bb.2.2.1 bb.2.1 bb.2.2.2.1 (by decide) hx1 (fun M3 g1 g2 => ?_)
      have hw' : WFG (addG E9 p s q f) := byW_wf E9_wf (by decide) o4
      have t3 : NrF M3 181 E9 := NrT.keep t2 (g2 _ (by omega)) (g2 _ (by omega))
      refine And.intro rfl (Exists.intro _ (And.intro rfl ?_))
      refine And.intro rfl (Exists.intro _ (And.intro rfl ?_))
      refine And.intro rfl ?_
      refine c_ncopy hG n4 n1 (by omega) (fun M4 k1 k2 => ?_)
      have t4 : NrF M4 184 E9 := NrT.copy t3 k1
      refine And.intro rfl (Exists.intro _ (And.intro rfl ?_))
      refine And.intro rfl (Exists.intro _ (And.intro rfl ?_))
      refine And.intro rfl ?_
      have g4 := g1.frn k2 (by omega)
      refine c_widen hG n4 gl (by omega) g4 hw' (NrF.add t4 p s q f) (k := 1) rfl (Nat.le_refl _) (fun M5 l1 l2 => ?_)
      have t5 : NrF M5 184 (addG E9 p s q f) := l1.congr (fun v => ThG_s) (fun p q s f => XG_s)
      have g5 := g4.frn l2 (by omega)
      have f5 : ∀ b, b < 171 ∨ 186 < b → M5 b = M0 b := fun b hb => by
        rw [l2 b (by omega) (by omega), k2 b (by omega) (by omega), g2 b (by omega), upM_ne (by omega)]
        exact hf b hb
      refine And.intro rfl (Exists.intro _ (And.intro rfl ?_))
      refine And.intro rfl (Exists.intro _ (And.intro rfl ?_))
      refine And.intro rfl ?_
      refine c_bridge hG n4 gl t5 g5 hw' rfl hv (fun r hr9 => ?_)
      refine And.intro (fun x => ?_) (fun x => ?_)
      · refine next _ M5 hw' rfl rfl g5 (NrT.keep (NrT.keep t3 (k2 _ (by decide) (by decide)) (k2 _ (by decide) (by decide))) (l2 _ (by decide) (by decide)) (l2 _ (by decide) (by decide))) f5 ?_
        rintro ⟨-, p', q', s', f', z1, z2⟩
        obtain ⟨e1, e2, e3, e4⟩ := byW_u E9_wf o4 z1
        subst e1 e2 e3 e4
        exact (hasT_iff hr9).mp z2 x
      · exact And.intro (Or.inr rfl) (h1 M5 ⟨2 * i + 3, hn, p, q, s, f, o4, (hasT_iff hr9).mpr x⟩ ⟨_, g5, hw'⟩ f5)
    · refine And.intro (fun c => ?_) (fun c => absurd rfl c)
      exact next G M1 hw hm hl hr ht hf (fun hb => hn _ rfl hb.1)
theorem c_fewest (hG : GOK Γ) {vI : Int} {v : Nat} (ev : vI = v) (hv : v % 2 = 1 ∧ v ≤ 1023) (hg : ∃ G, GrR M 171 G ∧ WFG G)
    (h : ∀ r M', isFew v r → (∃ G, GrR M' 171 G ∧ WFG G) → (∀ b, b < 171 ∨ 186 < b → M' b = M b) → Q (some (VI r)) (W0 L) M') : wp Γ mX0_adders 0 [some (VR 170), some (VI vI)] [] 0 0 (W0 L) M Q := by
  subst ev
  obtain ⟨G, hr, hw⟩ := hg
  have gl := W0_g171 L
  have n1 := W0_n181 L
  refine vc_go hG 60 (B := bX0_adders) rfl ?_
  refine And.intro rfl (Exists.intro _ (And.intro rfl ?_))
  refine And.intro rfl ?_
  refine c_empty hG gl hr (fun M1 g1 g2 => ?_)
  refine And.intro rfl (Exists.intro _ (And.intro rfl ?_))
  refine And.intro rfl ?_
  refine And.intro rfl (Exists.intro _ (And.intro rfl (And.intro rfl (Exists.intro _ (And.intro rfl ?_)))))
  refine And.intro rfl ?_
  have r2 : GrR (upM M1 171 4 9) 171 E9 := GrR_E9' g1 (empG_wf hw) (fun a a1 a2 => upM_ne (by omega)) (by rw [upM_k (by decide)]; exact g1.1) (by rw [upM_k (by decide)]; exact g1.2.1) upM_eq
  refine c_build hG n1 gl (by omega) r2 E9_wf (fun M2 t2 k2 => ?_)
  have r3 := r2.frn k2 (by omega)
  have f3 : ∀ b, b < 171 ∨ 186 < b → M2 b = M b := fun b hb => by
    rw [k2 b (by omega) (by omega), upM_ne (by omega), g2 b (by omega)]
  have gg : ∃ G, GrR M2 171 G ∧ WFG G := ⟨E9, r3, E9_wf⟩
  refine And.intro (fun b => ?_) (fun b => h 0 M2 (Or.inl ⟨by omega, rfl⟩) gg f3)
  refine And.intro rfl (Exists.intro _ (And.intro rfl ?_))
  refine And.intro rfl ?_
  refine c_has hG n1 t2 (fun n en hn => ?_) (fun hn => ?_)
  · have : n = v := by omega
    subst this
    refine And.intro (fun c => absurd c (by decide)) (fun c => ?_)
    exact h 1 M2 (Or.inr ⟨by omega, Or.inl ⟨hn, rfl⟩⟩) gg f3
  · refine And.intro (fun c => ?_) (fun c => absurd rfl c)
    refine And.intro rfl (Exists.intro _ (And.intro rfl ?_))
    refine And.intro rfl (Exists.intro _ (And.intro rfl ?_))
    refine And.intro rfl ?_
    refine c_bridge hG n1 gl t2 r3 E9_wf rfl hv (fun r hr9 => ?_)
    refine And.intro (fun x => ?_) (fun x => ?_)
    · have nt : ¬ hasT E9 v := fun z => (hasT_iff hr9).mp z x
      refine And.intro rfl ?_
      refine vc_go hG 60 (B := bX0_isMadeByThree) rfl ?_
      refine l_three hG hv M2 (fun M' a1 a2 a3 => ?_) (fun M' a1 a2 a3 => ?_) 511 0 E9 M2 rfl E9_wf rfl rfl r3 t2 (fun b _ => rfl) (fun b hb => ?_)
      · refine And.intro (fun d => absurd d (by decide)) (fun d => ?_)
        exact h 3 M' (Or.inr ⟨by omega, Or.inr ⟨hn v rfl, Or.inr ⟨nt, Or.inl ⟨a1, rfl⟩⟩⟩⟩) a2 (fun b hb => (a3 b hb).trans (f3 b hb))
      · refine And.intro (fun d => ?_) (fun d => absurd rfl d)
        exact h (-9) M' (Or.inr ⟨by omega, Or.inr ⟨hn v rfl, Or.inr ⟨nt, Or.inr ⟨a1, rfl⟩⟩⟩⟩) a2 (fun b hb => (a3 b hb).trans (f3 b hb))
      · rintro ⟨⟨⟨z1, z2⟩, z3, -⟩, -⟩
        have : b = 1 := by omega
        subst this
        exact z3 ⟨0, by decide, rfl⟩
    · exact h 2 M2 (Or.inr ⟨by omega, Or.inr ⟨hn v rfl, Or.inl ⟨(hasT_iff hr9).mpr x, rfl⟩⟩⟩) gg f3
end Fewest
