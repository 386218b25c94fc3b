/-! ===== the class's Near: what is read off the table ===== -/
def byW (G : GT) (v p q s f : Nat) : Prop := XG G (qn G + 1) p q s f ∧ mkV G p q s f = v ∧ ∀ p' q' s' f', XG G (qn G + 1) p' q' s' f' → mkV G p' q' s' f' = v → cdw p q s f ≤ cdw p' q' s' f'
abbrev isTh (G : GT) (v : Nat) : Prop := ThG G (qn G + 1) v
def isNr (G : GT) (v : Nat) : Prop := (v % 2 = 1 ∧ v ≤ 1023) ∧ ¬ isTh G v ∧ ∃ p q s f, byW G v p q s f
/-- NEAR, and another adder may stand on it -/
def isUs (G : GT) (v : Nat) : Prop := (v % 2 = 1 ∧ v ≤ 1023) ∧ ¬ isTh G v ∧ ∃ p q s f, byW G v p q s f ∧ dpt G p q < qL G
theorem byW_b {G : GT} (hw : WFG G) {v p q s f : Nat} (h : byW G v p q s f) : p ≤ qn G ∧ q ≤ qn G ∧ s ≤ 9 ∧ f ≤ 3 ∧ qn G ≤ 12 := by
  obtain ⟨⟨h1, h2, h3, h4, h5⟩, -⟩ := h
  have := hw.1
  omega
theorem byW_u {G : GT} (hw : WFG G) {v p q s f p' q' s' f' : Nat} (h : byW G v p q s f) (h' : byW G v p' q' s' f') : p = p' ∧ q = q' ∧ s = s' ∧ f = f' := by
  have b := byW_b hw h
  have b' := byW_b hw h'
  have e1 := h.2.2 _ _ _ _ h'.1 h'.2.1
  have e2 := h'.2.2 _ _ _ _ h.1 h.2.1
  unfold cdw at e1 e2
  omega
theorem NrF.cases {M : MM} {a : Nat} {G : GT} (h : NrF M a G) {i : Nat} (hi : i < 512) : (isTh G (2 * i + 1) ∧ M (a + 1) i = -2) ∨ (¬ isTh G (2 * i + 1) ∧ (∀ p q s f, ¬ byW G (2 * i + 1) p q s f) ∧ (∀ p q s f, XG G (qn G + 1) p q s f → mkV G p q s f ≠ 2 * i + 1) ∧ M (a + 1) i = -1) ∨ (¬ isTh G (2 * i + 1) ∧ ∃ p q s f, byW G (2 * i + 1) p q s f ∧ M (a + 1) i = (cdw p q s f : Nat) ∧ M (a + 2) i = (dpt G p q : Nat)) := by
  rcases h i hi with h1 | ⟨h0, h1 | ⟨p, q, s, f, a1, a2, a3, a4, a5⟩⟩
  · exact Or.inl h1
  · exact Or.inr (Or.inl ⟨h0, fun p q s f hb => h1.2 p q s f hb.1 hb.2.1, h1.2, h1.1⟩)
  · exact Or.inr (Or.inr ⟨h0, p, q, s, f, ⟨a1, a2, a5⟩, a3, a4⟩)
-- the least of a kind, and how many
def isLst (P : Nat → Prop) (r : Int) : Prop := (r = -9 ∧ ∀ e, ¬ P e) ∨ ∃ e : Nat, r = e ∧ P e ∧ ∀ e', e' < e → ¬ P e'
theorem isLst_u {P : Nat → Prop} {r r' : Int} (h : isLst P r) (h' : isLst P r') : r = r' := by
  rcases h with ⟨h1, h2⟩ | ⟨e, h1, h2, h3⟩ <;> rcases h' with ⟨k1, k2⟩ | ⟨e', k1, k2, k3⟩
  · omega
  · exact absurd k2 (h2 e')
  · exact absurd h2 (k2 e)
  · have : e = e' := by
      rcases Nat.lt_trichotomy e e' with q | q | q
      · exact absurd h2 (k3 e q)
      · exact q
      · exact absurd k2 (h3 e' q)
    omega
noncomputable def cP (P : Nat → Prop) : Nat → Nat
  | 0 => 0
  | k + 1 => cP P k + (@ite _ (P k) (Classical.propDecidable _) 1 0)
theorem cP_y {P : Nat → Prop} {k : Nat} (h : P k) : cP P (k + 1) = cP P k + 1 := by
  show cP P k + (@ite _ (P k) (Classical.propDecidable _) 1 0) = _
  rw [if_pos h]
theorem cP_n {P : Nat → Prop} {k : Nat} (h : ¬ P k) : cP P (k + 1) = cP P k := by
  show cP P k + (@ite _ (P k) (Classical.propDecidable _) 1 0) = _
  rw [if_neg h]; rfl
theorem cP_le (P : Nat → Prop) : ∀ k, cP P k ≤ k
  | 0 => Nat.le_refl _
  | k + 1 => by
    have := cP_le P k
    by_cases h : P k
    · rw [cP_y h]; omega
    · rw [cP_n h]; omega
section Near
variable {Γ : GG} {w : Wd} {M : MM} {Q : QT} {a g : Nat} {G : GT}
theorem c_way (hG : GOK Γ) (ha : NrL w a) (ht : NrF M a G) {vI : Int} {i : Nat} (hi : i < 512) (ev : vI = ((2 * i + 1 : Nat) : Int)) (h : Q (some (VI (M (a + 1) i))) w M) : wp Γ mX4_way 0 [some (VR a), some (VI vI)] [] 0 0 w M Q := by
  subst ev
  refine vc_go hG 60 (B := bX4_way) rfl ?_
  refine c_isOddNumber hG (fun ho => ?_) (fun ho => absurd (show isOddN ((2 * i + 1 : Nat) : Int) from ⟨by omega, by omega, by omega⟩) ho)
  refine And.intro (fun b => absurd b (by decide)) (fun b => ?_)
  refine And.intro ha.k (Exists.intro _ (And.intro ha.r0 ?_))
  refine And.intro ⟨by omega, by decide, by decide⟩ ?_
  have e1 : ((2 * i + 1 : Nat) : Int) / 2 ^ ((1 : Int).toNat) = (i : Int) := by
    rw [show ((2 * i + 1 : Nat) : Int) / 2 ^ ((1 : Int).toNat) = (((2 * i + 1) / 2 : Nat) : Int) from srN (2 * i + 1) 1]
    omega
  rw [e1]
  refine And.intro (Or.inl ha.k1) (Exists.intro i (And.intro rfl (And.intro (by rw [ha.l1]; exact hi) ?_)))
  exact h
theorem c_has (hG : GOK Γ) (ha : NrL w a) (ht : NrF M a G) {v : Int} (h1 : ∀ n : Nat, v = n → isNr G n → Q (some (VI 1)) w M) (h0 : (∀ n : Nat, v = n → ¬ isNr G n) → Q (some (VI 0)) w M) : wp Γ mX4_has 0 [some (VR a), some (VI v)] [] 0 0 w M Q := by
  refine vc_go hG 60 (B := bX4_has) rfl ?_
  refine c_isOddNumber hG (fun ho => ?_) (fun ho => ?_)
  · unfold isOddN at ho
    obtain ⟨i, hi⟩ : ∃ i : Nat, v = ((2 * i + 1 : Nat) : Int) := ⟨(v / 2).toNat, by omega⟩
    subst hi
    have hi : i < 512 := by omega
    refine And.intro (fun b => absurd b (by decide)) (fun b => ?_)
    refine And.intro ha.k (Exists.intro _ (And.intro ha.r0 ?_))
    refine And.intro ⟨by omega, by decide, by decide⟩ ?_
    have e1 : ((2 * i + 1 : Nat) : Int) / 2 ^ ((1 : Int).toNat) = (i : Int) := by
      rw [show ((2 * i + 1 : Nat) : Int) / 2 ^ ((1 : Int).toNat) = (((2 * i + 1) / 2 : Nat) : Int) from srN (2 * i + 1) 1]
      omega
    rw [e1]
    refine And.intro (Or.inl ha.k1) (Exists.intro i (And.intro rfl (And.intro (by rw [ha.l1]; exact hi) ?_)))
    rcases ht.cases hi with ⟨c1, c2⟩ | ⟨c1, c2, -, c3⟩ | ⟨c1, p, q, s, f, c2, c3, c4⟩
    · refine And.intro (fun c => And.intro (Or.inl rfl) (h0 (fun n en hn => ?_))) (fun c => by rw [c2] at c; omega)
      have : n = 2 * i + 1 := by omega
      subst this
      exact hn.2.1 c1
    · refine And.intro (fun c => And.intro (Or.inl rfl) (h0 (fun n en hn => ?_))) (fun c => by rw [c3] at c; omega)
      have : n = 2 * i + 1 := by omega
      subst this
      obtain ⟨p, q, s, f, hb⟩ := hn.2.2
      exact c2 p q s f hb
    · refine And.intro (fun c => by rw [c3] at c; omega) (fun c => And.intro (Or.inr rfl) (h1 (2 * i + 1) rfl ⟨⟨by omega, by omega⟩, c1, p, q, s, f, c2⟩))
  · unfold isOddN at ho
    refine And.intro (fun b => And.intro (Or.inl rfl) (h0 (fun n en hn => ?_))) (fun b => absurd rfl b)
    obtain ⟨⟨a1, a2⟩, -⟩ := hn
    omega
theorem l_howMany (hG : GOK Γ) (ha : NrL w a) (ht : NrF M a G) {v : Int} (h : Q (some (VI (cP (fun e => v < e ∧ isNr G e) 1024 : Nat))) w M) : ∀ (j i : Nat), i + j = 512 → wp Γ mX4_howManyAbove 4 [some (VR a), some (VI v), some (VI (cP (fun e => v < e ∧ isNr G e) (2 * i + 1) : Nat)), some (VI ((2 * i + 1 : Nat) : Int))] [] 0 0 w M Q := by
  have ev : ∀ i : Nat, ¬ (v < ((2 * i : Nat) : Int) ∧ isNr G (2 * i)) := fun i hh => by have := hh.2.1.1; omega
  intro j
  induction j with
  | zero =>
    intro i hi
    have e : i = 512 := by omega
    subst e
    refine vc_go hG 60 (B := bX4_howManyAbove) rfl ?_
    refine And.intro (fun b => ?_) (fun b => by omega)
    have := cP_n (P := fun e => v < e ∧ isNr G e) (k := 1024) (ev 512)
    rw [← this] at h
    exact h
  | succ j ih =>
    intro i hi
    have hc := cP_le (fun e => v < e ∧ isNr G e) (2 * i + 1)
    have n1 := ih (i + 1) (by omega)
    have n2 : cP (fun e => v < e ∧ isNr G e) (2 * (i + 1) + 1) = cP (fun e => v < e ∧ isNr G e) (2 * i + 1 + 1) := cP_n (ev (i + 1))
    rw [n2] at n1
    have e3 : ((2 * i + 1 : Nat) : Int) + 2 = ((2 * (i + 1) + 1 : Nat) : Int) := by omega
    refine vc_go hG 60 (B := bX4_howManyAbove) rfl ?_
    refine And.intro (fun b => by omega) (fun b => ?_)
    refine And.intro (fun c => ?_) (fun c => ?_)
    · refine And.intro (by omega) ?_
      rw [cP_n (fun hh => by have := hh.1; omega)] at n1
      rw [← e3] at n1
      exact n1
    · refine And.intro ha.k ?_
      refine c_has hG ha ht (fun n en hn => ?_) (fun hn => ?_)
      · refine And.intro (fun d => absurd d (by decide)) (fun d => ?_)
        have : n = 2 * i + 1 := by omega
        subst this
        refine And.intro (by omega) (And.intro (by omega) ?_)
        rw [cP_y ⟨c, hn⟩] at n1
        rw [← e3] at n1
        exact n1
      · refine And.intro (fun d => ?_) (fun d => absurd rfl d)
        refine And.intro (by omega) ?_
        rw [cP_n (fun hh => hn _ rfl hh.2)] at n1
        rw [← e3] at n1
        exact n1
theorem c_howMany (hG : GOK Γ) (ha : NrL w a) (ht : NrF M a G) {v : Int} (h : Q (some (VI (cP (fun e => v < e ∧ isNr G e) 1024 : Nat))) w M) : wp Γ mX4_howManyAbove 0 [some (VR a), some (VI v)] [] 0 0 w M Q := by
  refine vc_go hG 60 (B := bX4_howManyAbove) rfl ?_
  have := l_howMany hG ha ht h 512 0 rfl
  have e : cP (fun e => v < e ∧ isNr G e) (2 * 0 + 1) = 0 := cP_n (fun hh => by have := hh.2.1.1; omega)
  rw [e] at this
  exact this
theorem l_leastAbove (hG : GOK Γ) (ha : NrL w a) (ht : NrF M a G) {v : Int} (h : ∀ r, isLst (fun e => v < e ∧ isNr G e) r → Q (some (VI r)) w M) : ∀ (j i : Nat), i + j = 512 → (∀ e, e < 2 * i + 1 → ¬ (v < e ∧ isNr G e)) → wp Γ mX4_leastAbove 2 [some (VR a), some (VI v), some (VI ((2 * i + 1 : Nat) : Int))] [] 0 0 w M Q := by
  intro j
  induction j with
  | zero =>
    intro i hi hb
    refine vc_go hG 60 (B := bX4_leastAbove) rfl ?_
    refine And.intro (fun b => ?_) (fun b => by omega)
    refine h (-9) (Or.inl ⟨rfl, fun e he => ?_⟩)
    have := he.2.1
    exact hb e (by omega) he
  | succ j ih =>
    intro i hi hb
    have e3 : ((2 * i + 1 : Nat) : Int) + 2 = ((2 * (i + 1) + 1 : Nat) : Int) := by omega
    have go : ¬ (v < ((2 * i + 1 : Nat) : Int) ∧ isNr G (2 * i + 1)) → wp Γ mX4_leastAbove 2 [some (VR a), some (VI v), some (VI (((2 * i + 1 : Nat) : Int) + 2))] [] 0 0 w M Q := by
      intro hn
      rw [e3]
      refine ih (i + 1) (by omega) (fun e he => ?_)
      by_cases q1 : e = 2 * i + 1
      · subst q1; exact hn
      · by_cases q2 : e = 2 * i + 2
        · subst q2; intro hh; have := hh.2.1.1; omega
        · exact hb e (by omega)
    refine vc_go hG 60 (B := bX4_leastAbove) rfl ?_
    refine And.intro (fun b => by omega) (fun b => ?_)
    refine And.intro (fun c => And.intro (by omega) (go (fun hh => by have := hh.1; omega))) (fun c => ?_)
    refine And.intro ha.k ?_
    refine c_has hG ha ht (fun n en hn => ?_) (fun hn => ?_)
    · refine And.intro (fun d => absurd d (by decide)) (fun d => ?_)
      have : n = 2 * i + 1 := by omega
      subst this
      exact h _ (Or.inr ⟨2 * i + 1, rfl, ⟨c, hn⟩, hb⟩)
    · refine And.intro (fun d => And.intro (by omega) (go (fun hh => hn _ rfl hh.2))) (fun d => absurd rfl d)
theorem c_leastAbove (hG : GOK Γ) (ha : NrL w a) (ht : NrF M a G) {v : Int} (h : ∀ r, isLst (fun e => v < e ∧ isNr G e) r → Q (some (VI r)) w M) : wp Γ mX4_leastAbove 0 [some (VR a), some (VI v)] [] 0 0 w M Q := by
  refine vc_go hG 60 (B := bX4_leastAbove) rfl ?_
  refine l_leastAbove hG ha ht h 512 0 rfl (fun e he hh => ?_)
  have := hh.2.1.1
  omega
-- TWO
def isMin (S : Nat → Prop) (r : Int) : Prop := (r = 1024 ∧ ∀ e, ¬ S e) ∨ ∃ e : Nat, r = e ∧ e ≤ 1023 ∧ S e ∧ ∀ e', e' < e → ¬ S e'
theorem isMin_or {S T : Nat → Prop} {r t : Int} (h : isMin S r) (h' : isMin T t) : isMin (fun e => S e ∨ T e) (min r t) := by
  rcases h with ⟨h1, h2⟩ | ⟨e, h1, h0, h2, h3⟩ <;> rcases h' with ⟨k1, k2⟩ | ⟨e', k1, k0, k2, k3⟩
  · exact Or.inl ⟨by omega, fun e he => he.elim (h2 e) (k2 e)⟩
  · exact Or.inr ⟨e', by omega, k0, Or.inr k2, fun x hx he => he.elim (h2 x) (k3 x hx)⟩
  · exact Or.inr ⟨e, by omega, h0, Or.inl h2, fun x hx he => he.elim (h3 x hx) (k2 x)⟩
  · by_cases q : e ≤ e'
    · exact Or.inr ⟨e, by omega, h0, Or.inl h2, fun x hx he => he.elim (h3 x hx) (k3 x (by omega))⟩
    · exact Or.inr ⟨e', by omega, k0, Or.inr k2, fun x hx he => he.elim (h3 x (by omega)) (k3 x hx)⟩
theorem isMin_c {S T : Nat → Prop} {r : Int} (h : isMin S r) (hst : ∀ e, S e ↔ T e) : isMin T r := by
  have : S = T := funext (fun e => propext (hst e))
  rw [← this]; exact h
theorem c_usable (hG : GOK Γ) (ha : NrL w a) (ht : NrF M a G) (hw : WFG G) {x lI : Int} {n : Nat} (ex : x = n) (el : lI = qL G) (h : ∀ r, inR r → isMin (fun e => e = n ∧ isUs G e) r → Q (some (VI r)) w M) : wp Γ mX4_usable 0 [some (VR a), some (VI x), some (VI lI)] [] 0 0 w M Q := by
  subst ex el
  have none_ : ¬ isUs G n → Q (some (VI 1024)) w M := fun hn => h 1024 (by omega) (Or.inl ⟨rfl, fun e he => by obtain ⟨rfl, he⟩ := he; exact hn he⟩)
  refine vc_go hG 60 (B := bX4_usable) rfl ?_
  refine c_isOddNumber hG (fun ho => ?_) (fun ho => ?_)
  · unfold isOddN at ho
    obtain ⟨i, hi⟩ : ∃ i : Nat, n = 2 * i + 1 := ⟨n / 2, by omega⟩
    subst hi
    have hi : i < 512 := by omega
    refine And.intro (fun b => ?_) (fun b => absurd b (by decide))
    refine And.intro ⟨by omega, by decide, by decide⟩ ?_
    have e1 : ((2 * i + 1 : Nat) : Int) / 2 ^ ((1 : Int).toNat) = (i : Int) := by
      rw [show ((2 * i + 1 : Nat) : Int) / 2 ^ ((1 : Int).toNat) = (((2 * i + 1) / 2 : Nat) : Int) from srN (2 * i + 1) 1]
      omega
    rw [e1]
    refine And.intro ha.k (Exists.intro _ (And.intro ha.r0 ?_))
    refine And.intro (Or.inl ha.k1) (Exists.intro i (And.intro rfl (And.intro (by rw [ha.l1]; exact hi) ?_)))
    rcases ht.cases hi with ⟨c1, c2⟩ | ⟨c1, c2, -, c3⟩ | ⟨c1, p, q, s, f, c2, c3, c4⟩
    · exact And.intro (fun c => none_ (fun hu => hu.2.1 c1)) (fun c => by rw [c2] at c; omega)
    · refine And.intro (fun c => none_ (fun hu => ?_)) (fun c => by rw [c3] at c; omega)
      obtain ⟨p, q, s, f, hb, -⟩ := hu.2.2
      exact c2 p q s f hb
    · refine And.intro (fun c => by rw [c3] at c; omega) (fun c => ?_)
      refine And.intro ha.k (Exists.intro _ (And.intro ha.r1 ?_))
      refine And.intro (Or.inl ha.k2) (Exists.intro i (And.intro rfl (And.intro (by rw [ha.l2]; exact hi) ?_)))
      rw [c4]
      refine And.intro (fun d => none_ (fun hu => ?_)) (fun d => ?_)
      · obtain ⟨p', q', s', f', hb, hlt⟩ := hu.2.2
        obtain ⟨rfl, rfl, rfl, rfl⟩ := byW_u hw c2 hb
        omega
      · refine h _ (by omega) (Or.inr ⟨2 * i + 1, rfl, by omega, ⟨rfl, ⟨by omega, by omega⟩, c1, p, q, s, f, c2, by omega⟩, fun e' he' hh => ?_⟩)
        have := hh.1
        omega
  · refine And.intro (fun b => absurd rfl b) (fun b => none_ (fun hu => ho ?_))
    obtain ⟨⟨a1, a2⟩, -⟩ := hu
    exact ⟨by omega, by omega, by omega⟩
end Near
