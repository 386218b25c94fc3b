/-! ===== the model: its own numbers ===== -/
theorem odp_self {n : Nat} (h : n % 2 = 1) (h2 : n < 2048) : odp n = n := (odd_uniq (i := hv n) (j := 0) (odp_odd (by omega) h2) h (by rw [odp_mul]; simp)).1
theorem odp_half {n : Nat} (h0 : n ≠ 0) (h2 : n < 2048) (h : n % 2 = 0) : odp (n / 2) = odp n := by
  refine (odd_uniq (i := hv (n / 2) + 1) (j := hv n) (odp_odd (by omega) (by omega)) (odp_odd h0 h2) ?_).1
  rw [odp_mul, Nat.pow_succ, ← Nat.mul_assoc, odp_mul]
  omega
section Mod
variable {Γ : GG} {L : Nat} {w : Wd} {M : MM} {Q : QT} {G : GT}
theorem m_in (hG : GOK Γ) {x lo hi : Int} (h1 : lo ≤ x ∧ x ≤ hi → Q (some (VI 1)) w M) (h0 : ¬ (lo ≤ x ∧ x ≤ hi) → Q (some (VI 0)) w M) : wp Γ mX10_in 0 [some (VI x), some (VI lo), some (VI hi)] [] 0 0 w M Q := by
  refine vc_go hG 60 (B := bX10_in) rfl ?_
  refine And.intro (fun a => And.intro (Or.inl rfl) (h0 (by omega))) (fun a => ?_)
  exact And.intro (fun b => And.intro (Or.inl rfl) (h0 (by omega))) (fun b => And.intro (Or.inr rfl) (h1 (by omega)))
theorem m_comes (hG : GOK Γ) {pI sI qI fI : Int} {p s q f : Nat} (ep : pI = p) (es : sI = s) (eq : qI = q) (ef : fI = f) (hp : p ≤ 1023) (hs : s ≤ 9) (hq : q ≤ 1023) (hf : f ≤ 3) (h : Q (some (VI (cms p s q f : Nat))) w M) : wp Γ mX10_comes 0 [some (VI pI), some (VI sI), some (VI qI), some (VI fI)] [] 0 0 w M Q := by
  subst ep es eq ef
  have h1 := pw9 hs
  have h2 : p * 2 ^ s ≤ 1023 * 512 := Nat.mul_le_mul hp h1.2
  have h3 : q * 2 ^ s ≤ 1023 * 512 := Nat.mul_le_mul hq h1.2
  have e2 := shN p s
  have e3 := shN q s
  unfold cms at h
  have fin : ∀ z : Int, (-600000 ≤ z ∧ z ≤ 2000000) → (z = (cms p s q f : Nat) ∨ z = -(cms p s q f : Nat)) → wp Γ mX10_comes 45 [some (VI (p : Int)), some (VI (s : Int)), some (VI (q : Int)), some (VI (f : Int)), some (VI z)] [] 0 0 w M Q := by
    intro z hz hzz
    refine vc_go hG 60 (B := bX10_comes) rfl ?_
    have fz : ∀ y : Int, y = (cms p s q f : Nat) → Q (some (VI y)) w M := fun y hy => by rw [hy]; exact h
    refine And.intro (fun a => fz z (by omega)) (fun a => And.intro (by unfold inR; omega) (fz (-z) (by omega)))
  unfold cms at fin
  refine vc_goS hG 60 [45] (B := bX10_comes) rfl ?_
  refine And.intro (fun a => ?_) (fun a => ?_)
  · refine And.intro (fun b => ?_) (fun b => ?_)
    · refine And.intro (fun c => ?_) (fun c => ?_)
      · have hf3 : f = 3 := by omega
        rw [hf3, if_neg (by decide), if_neg (by decide), if_neg (by decide)] at fin
        refine And.intro ⟨by omega, by omega, by omega, by rw [e3]; omega⟩ ?_
        rw [e3]
        refine And.intro (by omega) ?_
        rw [hf3]
        exact fin _ (by omega) (by omega)
      · have hf3 : f = 2 := by omega
        rw [hf3, if_neg (by decide), if_neg (by decide), if_pos rfl] at fin
        refine And.intro ⟨by omega, by omega, by omega, by rw [e3]; omega⟩ ?_
        rw [e3]
        refine And.intro (by omega) ?_
        rw [hf3]
        exact fin _ (by omega) (by omega)
    · have hf3 : f = 1 := by omega
      rw [hf3, if_neg (by decide), if_pos rfl] at fin
      refine And.intro ⟨by omega, by omega, by omega, by rw [e2]; omega⟩ ?_
      rw [e2]
      refine And.intro (by omega) ?_
      rw [hf3]
      exact fin _ (by omega) (by omega)
  · have hf3 : f = 0 := by omega
    rw [hf3, if_pos rfl] at fin
    refine And.intro ⟨by omega, by omega, by omega, by rw [e2]; omega⟩ ?_
    rw [e2]
    refine And.intro (by omega) ?_
    rw [hf3]
    exact fin _ (by omega) (by omega)
theorem l_modd (hG : GOK Γ) {n : Nat} (h : Q (some (VI (odp n : Nat))) w M) : ∀ (j m : Nat), m < 2 ^ j → m < 2048 → odp m = odp n → wp Γ mX10_oddPart 2 [some (VI n), some (VI m)] [] 0 0 w M Q := by
  intro j
  induction j with
  | zero =>
    intro m h1 h2 h3
    have e : m = 0 := by simp at h1; omega
    subst e
    refine vc_go hG 60 (B := bX10_oddPart) rfl ?_
    refine And.intro (fun a => ?_) (fun a => by omega)
    rw [← h3, odp_0] at h
    exact h
  | succ j ih =>
    intro m h1 h2 h3
    refine vc_go hG 60 (B := bX10_oddPart) rfl ?_
    refine And.intro (fun a => ?_) (fun a => ?_)
    · have e : m = 0 := by omega
      subst e
      rw [← h3, odp_0] at h
      exact h
    · refine And.intro ⟨by omega, by decide⟩ (And.intro (fun b => ?_) (fun b => ?_))
      · have e : m % 2 = 1 := by omega
        rw [← h3, odp_self e h2] at h
        exact h
      · refine And.intro ⟨by omega, by decide⟩ ?_
        have e : (m : Int) / 2 = ((m / 2 : Nat) : Int) := rfl
        rw [e]
        rw [Nat.pow_succ] at h1
        exact ih (m / 2) (by omega) (by omega) ((odp_half (by omega) h2 (by omega)).trans h3)
theorem m_oddPart (hG : GOK Γ) {nI : Int} {n : Nat} (en : nI = n) (hn : n < 2048) (h : Q (some (VI (odp n : Nat))) w M) : wp Γ mX10_oddPart 0 [some (VI nI)] [] 0 0 w M Q := by
  subst en
  refine vc_go hG 60 (B := bX10_oddPart) rfl ?_
  exact l_modd hG h 11 n hn hn rfl
-- rows, and what is reckoned of them
def RwR (M : MM) (a : Nat) (G : GT) : Prop := M a 0 = qn G ∧ M a 49 = qm G ∧ M a 56 = qL G ∧ (∀ k, k < qn G → M a (1 + k) = qP G k ∧ M a (13 + k) = qS G k ∧ M a (25 + k) = qQ G k ∧ M a (37 + k) = qF G k) ∧ ∀ k, k < qm G → M a (50 + k) = qC G k
theorem RwR.keep {M M' : MM} {a : Nat} {G : GT} (h : RwR M a G) (hf : M' a = M a) : RwR M' a G := by
  unfold RwR
  rw [hf]
  exact h
def OdR (M : MM) (m : Nat) (V D : Nat → Nat) : Prop := M 187 20 = m ∧ ∀ k, k < m → M 197 k = V k ∧ M 198 k = D k
theorem OdR.keep {M M' : MM} {m : Nat} {V D : Nat → Nat} (h : OdR M m V D) (h1 : M' 187 20 = M 187 20) (h2 : M' 197 = M 197) (h3 : M' 198 = M 198) : OdR M' m V D := by
  unfold OdR
  rw [h1, h2, h3]
  exact h
def RwL (L a : Nat) : Prop := (W0 L).1 a = 0 ∧ (W0 L).2.1 a = 57
theorem RwL_d (L : Nat) : RwL L 189 := ⟨rfl, rfl⟩
theorem RwL_s (L : Nat) : RwL L 190 := ⟨rfl, rfl⟩
theorem RwL_w (L : Nat) : RwL L 191 := ⟨rfl, rfl⟩
theorem m_deeperB (hG : GOK Γ) {m : Nat} {V D : Nat → Nat} (ho : ∀ k, k < m → M 197 k = V k ∧ M 198 k = D k) (hD : ∀ k, k < m → D k ≤ 13) {pI qI : Int} {p q : Nat} (ep : pI = p) (eq : qI = q) (hm : m ≤ 14) (hp : p < m) (hq : q < m) (h : Q (some (VI (max (D p) (D q) + 1 : Nat))) (W0 L) M) : wp Γ mX10_deeper 0 [some (VR 187), some (VI pI), some (VI qI)] [] 0 0 (W0 L) M Q := by
  subst ep eq
  have e1 := (ho p hp).2
  have e2 := (ho q hq).2
  have d1 := hD p hp
  have d2 := hD q hq
  have fz : ∀ y : Int, y = ((max (D p) (D q) + 1 : Nat) : Int) → Q (some (VI y)) (W0 L) M := fun y hy => by rw [hy]; exact h
  refine vc_go hG 60 (B := bX10_deeper) rfl ?_
  refine And.intro rfl (Exists.intro _ (And.intro rfl ?_))
  refine And.intro (Or.inl rfl) (Exists.intro p (And.intro rfl (And.intro (show p < 14 by omega) ?_)))
  refine And.intro rfl (Exists.intro _ (And.intro rfl ?_))
  refine And.intro (Or.inl rfl) (Exists.intro q (And.intro rfl (And.intro (show q < 14 by omega) ?_)))
  refine And.intro (fun a => ?_) (fun a => ?_)
  · refine And.intro rfl (Exists.intro _ (And.intro rfl ?_))
    refine And.intro (Or.inl rfl) (Exists.intro q (And.intro rfl (And.intro (show q < 14 by omega) ?_)))
    exact And.intro (by omega) (fz _ (by omega))
  · refine And.intro rfl (Exists.intro _ (And.intro rfl ?_))
    refine And.intro (Or.inl rfl) (Exists.intro p (And.intro rfl (And.intro (show p < 14 by omega) ?_)))
    exact And.intro (by omega) (fz _ (by omega))
theorem m_deeper (hG : GOK Γ) {m : Nat} {V D : Nat → Nat} (ho : OdR M m V D) (hD : ∀ k, k < m → D k ≤ 13) {pI qI : Int} {p q : Nat} (ep : pI = p) (eq : qI = q) (hm : m ≤ 14) (hp : p < m) (hq : q < m) (h : Q (some (VI (max (D p) (D q) + 1 : Nat))) (W0 L) M) : wp Γ mX10_deeper 0 [some (VR 187), some (VI pI), some (VI qI)] [] 0 0 (W0 L) M Q := m_deeperB hG ho.2 hD ep eq hm hp hq h
/-- the rows of values and depths hold small numbers, old ones too -/
def OB (M : MM) : Prop := ∀ k, k < 14 → (0 ≤ M 197 k ∧ M 197 k ≤ 1023) ∧ (0 ≤ M 198 k ∧ M 198 k ≤ 13)
theorem OB.keep {M M' : MM} (h : OB M) (h1 : M' 197 = M 197) (h2 : M' 198 = M 198) : OB M' := by
  unfold OB
  rw [h1, h2]
  exact h
theorem OB.up {M : MM} (h : OB M) {i : Nat} {x : Int} (hx : 0 ≤ x ∧ x ≤ 1023) : OB (upM M 197 i x) := fun k hk => by
  rw [upM_a (a := 197) (b := 198) (by decide)]
  refine ⟨?_, (h k hk).2⟩
  by_cases q : k = i
  · subst q; rw [upM_eq]; exact hx
  · rw [upM_k q]; exact (h k hk).1
theorem OB.up2 {M : MM} (h : OB M) {i : Nat} {x : Int} (hx : 0 ≤ x ∧ x ≤ 13) : OB (upM M 198 i x) := fun k hk => by
  rw [upM_a (a := 198) (b := 197) (by decide)]
  refine ⟨(h k hk).1, ?_⟩
  by_cases q : k = i
  · subst q; rw [upM_eq]; exact hx
  · rw [upM_k q]; exact (h k hk).2
theorem OB.up3 {M : MM} (h : OB M) {a i : Nat} {x : Int} (h1 : 197 ≠ a) (h2 : 198 ≠ a) : OB (upM M a i x) := h.keep (upM_ne h1) (upM_ne h2)
def frK (M M' : MM) : Prop := (∀ a, a ≠ 187 → a ≠ 197 → a ≠ 198 → M' a = M a) ∧ (∀ j, j ≠ 20 → M' 187 j = M 187 j) ∧ (OB M → OB M')
theorem l_reckons (hG : GOK Γ) {a : Nat} (ha : RwL L a) (ha2 : a < 197) (ha3 : 187 < a) (hr : RwR M a G) (hw : WFG G) (h : ∀ M', OdR M' (qn G + 1) (qV G) (qD G) → frK M M' → Q none (W0 L) M') : ∀ (j k : Nat) (M1 : MM), k + j = qn G → OdR M1 (k + 1) (qV G) (qD G) → frK M M1 → wp Γ mX10_reckons 21 [some (VR 187), some (VR a), some (VI k)] [] 0 0 (W0 L) M1 Q := by
  have n12 := hw.1
  intro j
  induction j with
  | zero =>
    intro k M1 hk ho hf
    have e : k = qn G := by omega
    subst e
    have e0 : M1 a 0 = qn G := by rw [hf.1 a (by omega) (by omega) (by omega)]; exact hr.1
    refine vc_go hG 120 (B := bX10_reckons) rfl ?_
    refine And.intro (Or.inl ha.1) (Exists.intro 0 (And.intro rfl (And.intro (by rw [ha.2]; decide) ?_)))
    exact And.intro (fun y => h M1 ho hf) (fun y => by omega)
  | succ j ih =>
    intro k M1 hk ho hf
    have ea : M1 a = M a := hf.1 a (by omega) (by omega) (by omega)
    have e0 : M1 a 0 = qn G := by rw [ea]; exact hr.1
    obtain ⟨e1, e2, e3, e4⟩ := hr.2.2.2.1 k (by omega)
    rw [← ea] at e1 e2 e3 e4
    obtain ⟨w1, w2, w3, w4, w5, w6, w7, w8⟩ := hw.2.2.2.2.2.1 k (by omega)
    have v1 := WFG_V hw (qP G k) (by omega)
    have v2 := WFG_V hw (qQ G k) (by omega)
    have o1 := (ho.2 (qP G k) (by omega)).1
    have o2 := (ho.2 (qQ G k) (by omega)).1
    refine vc_go hG 120 (B := bX10_reckons) rfl ?_
    refine And.intro (Or.inl ha.1) (Exists.intro 0 (And.intro rfl (And.intro (by rw [ha.2]; decide) ?_)))
    refine And.intro (fun y => by omega) (fun y => ?_)
    refine And.intro (by omega) ?_
    refine And.intro (Or.inl ha.1) (Exists.intro (1 + k) (And.intro (by omega) (And.intro (by rw [ha.2]; omega) ?_)))
    refine And.intro (by omega) ?_
    refine And.intro (Or.inl ha.1) (Exists.intro (25 + k) (And.intro (by omega) (And.intro (by rw [ha.2]; omega) ?_)))
    refine And.intro rfl (Exists.intro _ (And.intro rfl ?_))
    refine And.intro (by omega) ?_
    refine And.intro rfl (Exists.intro _ (And.intro rfl ?_))
    refine And.intro (Or.inl rfl) (Exists.intro (qP G k) (And.intro e1 (And.intro (show qP G k < 14 by omega) ?_)))
    refine And.intro (by omega) ?_
    refine And.intro (Or.inl ha.1) (Exists.intro (13 + k) (And.intro (by omega) (And.intro (by rw [ha.2]; omega) ?_)))
    refine And.intro rfl (Exists.intro _ (And.intro rfl ?_))
    refine And.intro (Or.inl rfl) (Exists.intro (qQ G k) (And.intro e3 (And.intro (show qQ G k < 14 by omega) ?_)))
    refine And.intro (by omega) ?_
    refine And.intro (Or.inl ha.1) (Exists.intro (37 + k) (And.intro (by omega) (And.intro (by rw [ha.2]; omega) ?_)))
    refine m_comes hG o1 e2 o2 e4 v1.2.1 w3 v2.2.1 w4 ?_
    refine m_oddPart hG rfl (by have : qX G k < 2048 := by omega
                                exact this) ?_
    refine And.intro rfl (Exists.intro (k + 1) (And.intro rfl (And.intro (show k + 1 < 14 by omega) ?_)))
    have ho2 : OdR (upM M1 197 (k + 1) ((odp (qX G k) : Nat) : Int)) (k + 1) (qV G) (qD G) := ⟨by rw [upM_a (by decide)]; exact ho.1, fun i hi => by rw [upM_k (by omega), upM_a (by decide)]; exact ho.2 i hi⟩
    refine And.intro rfl (Exists.intro _ (And.intro rfl ?_))
    refine And.intro (by omega) ?_
    refine And.intro rfl ?_
    refine m_deeper hG ho2 (fun i hi => by have := WFG_D hw i (by omega); omega) e1 e3 (by omega) (by omega) (by omega) ?_
    refine And.intro rfl (Exists.intro (k + 1) (And.intro rfl (And.intro (show k + 1 < 14 by omega) ?_)))
    refine And.intro rfl (And.intro ?_ (And.intro rfl ?_))
    · rw [upM_a (by decide), upM_a (by decide), ho.1]; omega
    refine And.intro (by omega) ?_
    refine wp_pre [some (VR 187), some (VR a), some (VI ((k + 1 : Nat) : Int))] _ ?_
    have dp := WFG_D hw (qP G k) (by omega)
    have dq := WFG_D hw (qQ G k) (by omega)
    have ol := odp_le (qX G k)
    refine ih (k + 1) _ (by omega) ⟨?_, fun i hi => ?_⟩ ⟨fun b b1 b2 b3 => ?_, fun i hi => ?_, fun z => (((hf.2.2 z).up ⟨by omega, by omega⟩).up2 ⟨by omega, by omega⟩).up3 (by decide) (by decide)⟩
    · rw [upM_eq, upM_a (by decide), upM_a (by decide), ho.1]; omega
    · by_cases q : i = k + 1
      · subst q
        rw [upM_a (by decide), upM_a (by decide), upM_eq, upM_a (by decide), upM_eq, w7, w8]
        exact ⟨rfl, rfl⟩
      · rw [upM_a (by decide), upM_a (by decide), upM_k q, upM_a (by decide), upM_k q, upM_a (by decide)]
        exact ho.2 i (by omega)
    · rw [upM_ne b1, upM_ne b3, upM_ne b2]; exact hf.1 b b1 b2 b3
    · rw [upM_k hi, upM_a (by decide), upM_a (by decide)]; exact hf.2.1 i hi
theorem m_reckons (hG : GOK Γ) {a : Nat} (ha : RwL L a) (ha2 : a < 197) (ha3 : 187 < a) (hr : RwR M a G) (hw : WFG G) (h : ∀ M', OdR M' (qn G + 1) (qV G) (qD G) → frK M M' → Q none (W0 L) M') : wp Γ mX10_reckons 0 [some (VR 187), some (VR a)] [] 0 0 (W0 L) M Q := by
  refine vc_go hG 120 (B := bX10_reckons) rfl ?_
  refine And.intro rfl (Exists.intro _ (And.intro rfl ?_))
  refine And.intro rfl (Exists.intro 0 (And.intro rfl (And.intro (show 0 < 14 by decide) ?_)))
  refine And.intro rfl (Exists.intro _ (And.intro rfl ?_))
  refine And.intro rfl (Exists.intro 0 (And.intro rfl (And.intro (show 0 < 14 by decide) ?_)))
  refine And.intro rfl ?_
  refine l_reckons hG ha ha2 ha3 hr hw h (qn G) 0 _ (by omega) ⟨upM_eq, fun i hi => ?_⟩ ⟨fun b b1 b2 b3 => ?_, fun i hi => ?_, fun z => ((z.up ⟨by omega, by omega⟩).up2 ⟨by omega, by omega⟩).up3 (by decide) (by decide)⟩
  · have e : i = 0 := by omega
    subst e
    rw [upM_a (by decide), upM_a (by decide), upM_eq, upM_a (by decide), upM_eq, hw.2.2.2.1, hw.2.2.2.2.1]
    exact ⟨rfl, rfl⟩
  · rw [upM_ne b1, upM_ne b3, upM_ne b2]
  · rw [upM_k hi, upM_a (by decide), upM_a (by decide)]
end Mod
