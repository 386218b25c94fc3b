/-! ===== the model: least, gone through ===== -/
def B1 (b : Nat) : Prop := 3 ≤ b ∧ b ≤ 1023 ∧ MK 1 1 b
def T3 (t b c : Nat) : Prop := B1 b ∧ 3 ≤ c ∧ mkAll b c ∧ (MK c 1 t ∨ MK 1 c t ∨ MK b c t ∨ MK c b t ∨ MK c c t)
def Zo (t b : Nat) (z : Int) : Prop := (z = 1 ∧ ∃ b c, T3 t b c) ∨ (z = 0 ∧ ∀ b' c, b' < b → ¬ T3 t b' c)
def Zi (t b c : Nat) (z : Int) : Prop := (z = 1 ∧ ∃ b c, T3 t b c) ∨ (z = 0 ∧ ∀ b' c', (b' < b ∨ (b' = b ∧ c' < c)) → ¬ T3 t b' c')
theorem mkAll_odd {b x : Nat} (h : mkAll b x) : x % 2 = 1 ∧ x ≤ 1023 := by
  rcases h with h | h | h | h
  · exact MK_odd h
  · exact MK_odd h
  · exact MK_odd h
  · exact MK_odd h
section Mod
variable {Γ : GG} {L : Nat} {M : MM} {Q : QT} {S : ST}
theorem ls129 (hG : GOK Γ) {v : Int} {t b : Nat} (hb : B1 b) (h2 : ∀ x, x < 1024 → (M 202 x = b ↔ mkAll b x)) (h : ∀ z, Zo t (b + 2) z → wp Γ mX10_least 85 [some (VR 187), some (VI v), some (VI t), some (VI z), some (VI ((b + 2 : Nat) : Int))] [] 0 0 (W0 L) M Q) :
    ∀ (j i : Nat) (z : Int), i + j = 511 → Zi t b (2 * i + 3) z → wp Γ mX10_least 129 [some (VR 187), some (VI v), some (VI t), some (VI z), some (VI b), some (VI ((2 * i + 3 : Nat) : Int))] [] 0 0 (W0 L) M Q := by
  have hb3 := hb.1
  have hb4 := hb.2.1
  have bo := (MK_odd hb.2.2).1
  have ex : ∀ (z : Int) (c : Int), Zo t (b + 2) z → wp Γ mX10_least 218 [some (VR 187), some (VI v), some (VI t), some (VI z), some (VI b), some (VI c)] [] 0 0 (W0 L) M Q := by
    intro z c hz
    refine vc_go hG 60 (B := bX10_least) rfl ?_
    refine And.intro (by omega) ?_
    exact wp_pre [some (VR 187), some (VI v), some (VI t), some (VI z), some (VI ((b + 2 : Nat) : Int))] [some (VI c)] (h z hz)
  intro j
  induction j with
  | zero =>
    intro i z hj hz
    refine vc_goS hG 60 [218] (B := bX10_least) rfl ?_
    refine And.intro (fun y => ex z _ ?_) (fun y => by omega)
    rcases hz with a | ⟨a1, a2⟩
    · exact Or.inl a
    · refine Or.inr ⟨a1, fun b' c' hb' x => ?_⟩
      have x1 := (MK_odd x.1.2.2).1
      have x2 := mkAll_odd x.2.2.1
      exact a2 b' c' (by omega) x
  | succ j ih =>
    intro i z hj hz
    refine vc_goS hG 60 [218, 211] (B := bX10_least) rfl ?_
    refine And.intro (fun y => by omega) (fun y => ?_)
    rcases hz with ⟨a1, a2⟩ | ⟨a1, a2⟩
    · exact And.intro (fun y2 => ex z _ (Or.inl ⟨a1, a2⟩)) (fun y2 => by omega)
    · refine And.intro (fun y2 => absurd a1 y2) (fun y2 => ?_)
      have fin : ∀ z' : Int, ((z' = 1 ∧ T3 t b (2 * i + 3)) ∨ (z' = 0 ∧ ¬ T3 t b (2 * i + 3))) → wp Γ mX10_least 211 [some (VR 187), some (VI v), some (VI t), some (VI z), some (VI b), some (VI ((2 * i + 3 : Nat) : Int))] [VI z'] 0 0 (W0 L) M Q := by
        intro z' hz'
        refine vc_go hG 60 (B := bX10_least) rfl ?_
        refine And.intro (by omega) ?_
        refine ih (i + 1) z' (by omega) ?_
        rcases hz' with ⟨c1, c2⟩ | ⟨c1, c2⟩
        · exact Or.inl ⟨c1, b, _, c2⟩
        · refine Or.inr ⟨c1, fun b' c' hc x => ?_⟩
          by_cases e : b' = b ∧ c' = 2 * i + 3
          · obtain ⟨e1, e2⟩ := e
            subst e1 e2
            exact c2 x
          · have x2 := mkAll_odd x.2.2.1
            exact a2 b' c' (by omega) x
      have hc1 : 2 * i + 3 ≤ 1023 := by omega
      refine And.intro rfl (Exists.intro _ (And.intro rfl ?_))
      refine And.intro (Or.inl rfl) (Exists.intro (2 * i + 3) (And.intro (by omega) (And.intro (show 2 * i + 3 < 1024 by omega) ?_)))
      refine And.intro (fun y3 => fin 0 (Or.inr ⟨rfl, fun x => y3 ((h2 _ (by omega)).2 x.2.2.1)⟩)) (fun y3 => ?_)
      have ma := (h2 _ (show 2 * i + 3 < 1024 by omega)).1 y3
      refine m_isMade hG rfl rfl (q := 1) rfl hc1 (by decide) (fun k1 => ?_) (fun k1 => ?_)
      · exact And.intro (fun _ => fin 1 (Or.inl ⟨rfl, hb, by omega, ma, Or.inl k1⟩)) (fun y => absurd y (by decide))
      · refine And.intro (fun y => absurd rfl y) (fun _ => ?_)
        refine m_isMade hG rfl (p := 1) rfl rfl (by decide) hc1 (fun k2 => ?_) (fun k2 => ?_)
        · exact And.intro (fun _ => fin 1 (Or.inl ⟨rfl, hb, by omega, ma, Or.inr (Or.inl k2)⟩)) (fun y => absurd y (by decide))
        · refine And.intro (fun y => absurd rfl y) (fun _ => ?_)
          refine m_isMade hG rfl rfl rfl hb4 hc1 (fun k3 => ?_) (fun k3 => ?_)
          · exact And.intro (fun _ => fin 1 (Or.inl ⟨rfl, hb, by omega, ma, Or.inr (Or.inr (Or.inl k3))⟩)) (fun y => absurd y (by decide))
          · refine And.intro (fun y => absurd rfl y) (fun _ => ?_)
            refine m_isMade hG rfl rfl rfl hc1 hb4 (fun k4 => ?_) (fun k4 => ?_)
            · exact And.intro (fun _ => fin 1 (Or.inl ⟨rfl, hb, by omega, ma, Or.inr (Or.inr (Or.inr (Or.inl k4)))⟩)) (fun y => absurd y (by decide))
            · refine And.intro (fun y => absurd rfl y) (fun _ => ?_)
              refine m_isMade hG rfl rfl rfl hc1 hc1 (fun k5 => ?_) (fun k5 => ?_)
              · exact And.intro (fun y => absurd y (by decide)) (fun _ => fin 1 (Or.inl ⟨rfl, hb, by omega, ma, Or.inr (Or.inr (Or.inr (Or.inr k5)))⟩))
              · refine And.intro (fun _ => fin 0 (Or.inr ⟨rfl, fun x => ?_⟩)) (fun y => absurd rfl y)
                rcases x.2.2.2 with x | x | x | x | x
                · exact k1 x
                · exact k2 x
                · exact k3 x
                · exact k4 x
                · exact k5 x
theorem ls85 (hG : GOK Γ) {v : Int} {t : Nat} (ht : t < 1024) (h1 : ∀ x, x < 1024 → (MK 1 1 x → M 201 x = 1) ∧ (¬ MK 1 1 x → M 201 x = 0))
    (h2 : ∀ M', (∃ b, B1 b ∧ mkAll b t) → (∀ a, a ≠ 202 → M' a = M a) → Q (some (VI 2)) (W0 L) M')
    (h3 : ∀ M', (∀ b, B1 b → ¬ mkAll b t) → (∃ b c, T3 t b c) → (∀ a, a ≠ 202 → M' a = M a) → Q (some (VI 3)) (W0 L) M')
    (h9 : ∀ M', (∀ b, B1 b → ¬ mkAll b t) → (∀ b c, ¬ T3 t b c) → (∀ a, a ≠ 202 → M' a = M a) → Q (some (VI (-9))) (W0 L) M') :
    ∀ (j i : Nat) (z : Int) (M1 : MM), i + j = 511 → Zo t (2 * i + 3) z → (∀ b, b < 2 * i + 3 → B1 b → ¬ mkAll b t) → (∀ x, x < 1024 → M1 202 x < ((2 * i + 3 : Nat) : Int)) → M1 202 t = 0 → (∀ a, a ≠ 202 → M1 a = M a) → wp Γ mX10_least 85 [some (VR 187), some (VI v), some (VI t), some (VI z), some (VI ((2 * i + 3 : Nat) : Int))] [] 0 0 (W0 L) M1 Q := by
  intro j
  induction j with
  | zero =>
    intro i z M1 hj hz hB hl h0 hf
    have nB : ∀ b, B1 b → ¬ mkAll b t := fun b hb => hB b (by have := hb.2.1; omega) hb
    refine vc_go hG 60 (B := bX10_least) rfl ?_
    refine And.intro (fun y => ?_) (fun y => by omega)
    rcases hz with ⟨a1, a2⟩ | ⟨a1, a2⟩
    · exact And.intro (fun y => by omega) (fun y => h3 M1 nB a2 hf)
    · exact And.intro (fun y => h9 M1 nB (fun b c x => a2 b c (by have := x.1.2.1; omega) x) hf) (fun y => absurd a1 y)
  | succ j ih =>
    intro i z M1 hj hz hB hl h0 hf
    have e1 : M1 201 = M 201 := hf 201 (by decide)
    have f1 := h1 (2 * i + 3) (by omega)
    rw [← e1] at f1
    refine vc_go hG 60 (B := bX10_least) rfl ?_
    refine And.intro (fun y => by omega) (fun y => ?_)
    refine And.intro rfl (Exists.intro _ (And.intro rfl ?_))
    refine And.intro (Or.inl rfl) (Exists.intro (2 * i + 3) (And.intro (by omega) (And.intro (show 2 * i + 3 < 1024 by omega) ?_)))
    by_cases mk : MK 1 1 (2 * i + 3)
    · have b1 : B1 (2 * i + 3) := ⟨by omega, by omega, mk⟩
      have g1 := f1.1 mk
      refine And.intro (fun y => by omega) (fun y => ?_)
      refine And.intro rfl (Exists.intro _ (And.intro rfl ?_))
      refine m_marksAll hG (arL_2 L) rfl (by omega) (fun M2 k1 k2 => ?_)
      refine And.intro rfl (Exists.intro _ (And.intro rfl ?_))
      refine And.intro (Or.inl rfl) (Exists.intro (t) (And.intro (by omega) (And.intro (show t < 1024 by omega) ?_)))
      by_cases mt : mkAll (2 * i + 3) t
      · have g2 := (k1 t ht).1 mt
        refine And.intro (fun y => by omega) (fun y => ?_)
        exact h2 M2 ⟨_, b1, mt⟩ (fun a ha => by rw [k2 a ha]; exact hf a ha)
      · have g2 := (k1 t ht).2 mt
        rw [h0] at g2
        refine And.intro (fun y => ?_) (fun y => by omega)
        refine ls129 hG b1 (fun x hx => ?_) (fun z' hz' => ?_) 511 0 z rfl ?_
        · constructor
          · intro q
            by_cases c : mkAll (2 * i + 3) x
            · exact c
            · have := (k1 x hx).2 c
              have := hl x hx
              omega
          · exact (k1 x hx).1
        · refine ih (i + 1) z' M2 (by omega) hz' (fun b hb q => ?_) (fun x hx => ?_) g2 (fun a ha => by rw [k2 a ha]; exact hf a ha)
          · by_cases c : b < 2 * i + 3
            · exact hB b c q
            · have := (MK_odd q.2.2).1
              have e : b = 2 * i + 3 := by omega
              subst e
              exact mt
          · by_cases c : mkAll (2 * i + 3) x
            · rw [(k1 x hx).1 c]; omega
            · rw [(k1 x hx).2 c]; have := hl x hx; omega
        · rcases hz with a | ⟨a1, a2⟩
          · exact Or.inl a
          · refine Or.inr ⟨a1, fun b' c' hc x => ?_⟩
            have := x.2.1
            exact a2 b' c' (by omega) x
    · have g1 := f1.2 mk
      refine And.intro (fun y => ?_) (fun y => by omega)
      refine And.intro (by omega) ?_
      refine ih (i + 1) z M1 (by omega) ?_ (fun b hb q => ?_) (fun x hx => by have := hl x hx; omega) h0 hf
      · rcases hz with a | ⟨a1, a2⟩
        · exact Or.inl a
        · refine Or.inr ⟨a1, fun b' c' hc x => ?_⟩
          by_cases c : b' < 2 * i + 3
          · exact a2 b' c' c x
          · have := (MK_odd x.1.2.2).1
            have e : b' = 2 * i + 3 := by omega
            subst e
            exact mk x.1.2.2
      · by_cases c : b < 2 * i + 3
        · exact hB b c q
        · have := (MK_odd q.2.2).1
          have e : b = 2 * i + 3 := by omega
          subst e
          exact absurd q.2.2 mk
theorem ls32 (hG : GOK Γ) {v t : Int} (h : ∀ M' : MM, (∀ x, x < 1024 → M' 201 x = 0 ∧ M' 202 x = 0) → (∀ a, a ≠ 201 → a ≠ 202 → M' a = M a) → wp Γ mX10_least 59 [some (VR 187), some (VI v), some (VI t)] [] 0 0 (W0 L) M' Q) : ∀ (j k : Nat) (M1 : MM), k + j = 1024 → (∀ x, x < k → M1 201 x = 0 ∧ M1 202 x = 0) → (∀ a, a ≠ 201 → a ≠ 202 → M1 a = M a) → wp Γ mX10_least 32 [some (VR 187), some (VI v), some (VI t), some (VI k)] [] 0 0 (W0 L) M1 Q := by
  intro j
  induction j with
  | zero =>
    intro k M1 hj hz hf
    have e : k = 1024 := by omega
    subst e
    refine vc_goS hG 60 [59] (B := bX10_least) rfl ?_
    refine And.intro (fun y => ?_) (fun y => by omega)
    exact wp_pre [some (VR 187), some (VI v), some (VI t)] [some (VI 1024)] (h M1 hz hf)
  | succ j ih =>
    intro k M1 hj hz hf
    refine vc_goS hG 60 [59] (B := bX10_least) rfl ?_
    refine And.intro (fun y => by omega) (fun y => ?_)
    refine And.intro rfl (Exists.intro _ (And.intro rfl ?_))
    refine And.intro rfl (Exists.intro (k) (And.intro (by omega) (And.intro (show k < 1024 by omega) ?_)))
    refine And.intro rfl (Exists.intro _ (And.intro rfl ?_))
    refine And.intro rfl (Exists.intro (k) (And.intro (by omega) (And.intro (show k < 1024 by omega) ?_)))
    refine And.intro (by omega) ?_
    refine ih (k + 1) _ (by omega) (fun x hx => ?_) (fun a a1 a2 => by rw [upM_ne a2, upM_ne a1]; exact hf a a1 a2)
    by_cases e : x = k
    · subst e; rw [upM_a (by decide), upM_eq, upM_eq]; exact ⟨rfl, rfl⟩
    · rw [upM_a (by decide), upM_k e, upM_k e, upM_a (by decide)]; exact hz x (by omega)
/-- what the model answers -/
def lsM (t : Nat) (r : Int) : Prop := (t = 1 ∧ r = 0) ∨ (t ≠ 1 ∧ ((MK 1 1 t ∧ r = 1) ∨ (¬ MK 1 1 t ∧ (((∃ b, B1 b ∧ mkAll b t) ∧ r = 2) ∨ ((∀ b, B1 b → ¬ mkAll b t) ∧ (((∃ b c, T3 t b c) ∧ r = 3) ∨ ((∀ b c, ¬ T3 t b c) ∧ r = -9)))))))
theorem y_least0 (hG : GOK Γ) (hc : MR M S) {v : Int} (h1 : ¬ (1 ≤ v ∧ v ≤ 255) → ∀ M', MR M' S → frM M M' → Q (some (VI (-1))) (W0 L) M') (h : 1 ≤ v ∧ v ≤ 255 → ∀ r M', lsM (odp v.toNat) r → MR M' S → frM M M' → Q (some (VI r)) (W0 L) M') : wp Γ mX10_least 0 [some (VR 187), some (VI v)] [] 0 0 (W0 L) M Q := by
  have hc0 := hc.th
  have f0 := frM_th M
  refine vc_go hG 60 (B := bX10_least) rfl ?_
  refine And.intro rfl ?_
  refine m_in hG (fun z => ?_) (fun z => And.intro (fun c => absurd rfl c) (fun c => h1 z _ hc0 f0))
  refine And.intro (fun c => ?_) (fun c => absurd c (by decide))
  have h := h z
  have ol := odp_le v.toNat
  refine m_oddPart hG (n := v.toNat) (by omega) (by omega) ?_
  generalize odp v.toNat = t at *
  refine And.intro (fun y1 => ?_) (fun y1 => h 0 _ (Or.inl ⟨by omega, rfl⟩) hc0 f0)
  have t1 : t ≠ 1 := by omega
  refine ls32 hG (fun M1 z1 g1 => ?_) 1024 0 (upM M 187 0 0) rfl (fun x hx => absurd hx (Nat.not_lt_zero x)) (fun _ _ _ => rfl)
  refine vc_go hG 60 (B := bX10_least) rfl ?_
  refine And.intro rfl (Exists.intro _ (And.intro rfl ?_))
  refine m_marks hG (arL_1 L) (p := 1) (q := 1) rfl rfl (by decide) (by decide) (fun M2 k1 k2 => ?_)
  have fr : ∀ {M3 : MM}, (∀ a, a ≠ 202 → M3 a = M2 a) → MR M3 S ∧ frM M M3 := by
    intro M3 hf
    have u : ∀ a, a ≠ 201 → a ≠ 202 → M3 a = upM M 187 0 0 a := fun a a1 a2 => by rw [hf a a2, k2 a a1, g1 a a1 a2]
    exact ⟨hc0.keep (fun j hj => by rw [u 187 (by decide) (by decide)]) (fun a ha => u a (by omega) (by omega)), f0.t (frM.o (fun a ha => u a (by omega) (by omega)))⟩
  have m1 : ∀ x, x < 1024 → (MK 1 1 x → M2 201 x = 1) ∧ (¬ MK 1 1 x → M2 201 x = 0) := fun x hx => ⟨(k1 x hx).1, fun w => by rw [(k1 x hx).2 w]; exact (z1 x hx).1⟩
  have tt := m1 t (by omega)
  refine And.intro rfl (Exists.intro _ (And.intro rfl ?_))
  refine And.intro (Or.inl rfl) (Exists.intro (t) (And.intro (by omega) (And.intro (show t < 1024 by omega) ?_)))
  by_cases mt : MK 1 1 t
  · have g := tt.1 mt
    refine And.intro (fun y => by omega) (fun y => ?_)
    have q := fr (M3 := M2) (fun _ _ => rfl)
    exact h 1 M2 (Or.inr ⟨t1, Or.inl ⟨mt, rfl⟩⟩) q.1 q.2
  · have g := tt.2 mt
    refine And.intro (fun y => ?_) (fun y => by omega)
    refine ls85 hG (by omega) m1 (fun M3 w hf => ?_) (fun M3 w1 w2 hf => ?_) (fun M3 w1 w2 hf => ?_) 511 0 0 M2 rfl (Or.inr ⟨rfl, fun b c hb x => ?_⟩) (fun b hb x => ?_) (fun x hx => ?_) ?_ (fun _ _ => rfl)
    · exact h 2 M3 (Or.inr ⟨t1, Or.inr ⟨mt, Or.inl ⟨w, rfl⟩⟩⟩) (fr hf).1 (fr hf).2
    · exact h 3 M3 (Or.inr ⟨t1, Or.inr ⟨mt, Or.inr ⟨w1, Or.inl ⟨w2, rfl⟩⟩⟩⟩) (fr hf).1 (fr hf).2
    · exact h (-9) M3 (Or.inr ⟨t1, Or.inr ⟨mt, Or.inr ⟨w1, Or.inr ⟨w2, rfl⟩⟩⟩⟩) (fr hf).1 (fr hf).2
    · have := x.1.1; omega
    · have := x.1; omega
    · rw [k2 202 (by decide), (z1 x hx).2]; decide
    · rw [k2 202 (by decide)]; exact (z1 t (by omega)).2
end Mod
