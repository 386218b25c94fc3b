/-! ===== the class's Seen ===== -/
/-- what can still be: NEAR, and all that was seen is so -/
def UN (G : GT) (n : Nat) (sm sr : Nat → Nat) (v : Nat) : Prop := isNr G v ∧ ∀ k, k < n → v % sm k = sr k
theorem UN_odd {G : GT} {n : Nat} {sm sr : Nat → Nat} {v : Nat} (h : UN G n sm sr v) : v % 2 = 1 ∧ v ≤ 1023 := h.1.1
/-- how many leave r by m, below k -/
noncomputable def cR (P : Nat → Prop) (m k r : Nat) : Nat := cP (fun v => P v ∧ v % m = r) k
theorem mxD_upd {D D' : Nat → Nat} {r0 : Nat} (h1 : D r0 ≤ D' r0) (h2 : ∀ r, r ≠ r0 → D' r = D r) : ∀ j, r0 < j → mxD D' j = max (mxD D j) (D' r0)
  | 0, h => by omega
  | j + 1, h => by
    show max (mxD D' j) (D' j) = max (max (mxD D j) (D j)) (D' r0)
    by_cases e : r0 = j
    · subst e
      have : ∀ i, i ≤ r0 → mxD D' i = mxD D i := by
        intro i
        induction i with
        | zero => intro _; rfl
        | succ i ih =>
          intro hi
          show max (mxD D' i) (D' i) = max (mxD D i) (D i)
          rw [ih (by omega), h2 i (by omega)]
      rw [this r0 (Nat.le_refl _)]
      omega
    · rw [mxD_upd h1 h2 j (by omega), h2 j (by omega)]
      omega
theorem mxD_cong {D D' : Nat → Nat} : ∀ j, (∀ r, r < j → D r = D' r) → mxD D j = mxD D' j
  | 0, _ => rfl
  | j + 1, h => by
    show max (mxD D j) (D j) = max (mxD D' j) (D' j)
    rw [mxD_cong j (fun r hr => h r (by omega)), h j (by omega)]
theorem mxD_le {D : Nat → Nat} {c : Nat} : ∀ j, (∀ r, r < j → D r ≤ c) → mxD D j ≤ c
  | 0, _ => Nat.zero_le _
  | j + 1, h => by
    have := mxD_le (D := D) (c := c) j (fun r hr => h r (by omega))
    have := h j (by omega)
    show max (mxD D j) (D j) ≤ c
    omega
theorem mxD_more {D : Nat → Nat} {j : Nat} : ∀ i, (∀ r, j ≤ r → D r = 0) → mxD D (j + i) = mxD D j
  | 0, _ => rfl
  | i + 1, h => by
    show max (mxD D (j + i)) (D (j + i)) = _
    rw [mxD_more i h, h (j + i) (by omega)]
    omega
theorem cP_odd {P : Nat → Prop} (hP : ∀ v, P v → v % 2 = 1) : ∀ i, cP P (2 * i) ≤ i
  | 0 => Nat.le_refl _
  | i + 1 => by
    have h1 := cP_odd hP i
    have h2 : cP P (2 * i + 1) = cP P (2 * i) := cP_n (fun h => by have := hP _ h; omega)
    have h3 : cP P (2 * (i + 1)) ≤ cP P (2 * i + 1) + 1 := by
      show cP P (2 * i + 1 + 1) ≤ _
      by_cases q : P (2 * i + 1)
      · rw [cP_y q]; omega
      · rw [cP_n q]; omega
    omega
theorem cP_none {P : Nat → Prop} (h : ∀ v, ¬ P v) : ∀ k, cP P k = 0
  | 0 => rfl
  | k + 1 => by rw [cP_n (h k), cP_none h k]
/-- ASK, number by number -/
noncomputable def ak (P : Nat → Prop) : Nat → Int × Int
  | 0 => (-9, 9999)
  | j + 1 => if ((mxD (cR P (j + 2) 1024) (j + 2) : Nat) : Int) < (ak P j).2 then (((j + 2 : Nat) : Int), ((mxD (cR P (j + 2) 1024) (j + 2) : Nat) : Int)) else ak P j
section Seen
variable {Γ : GG} {L : Nat} {M : MM} {Q : QT} {a : Nat} {G : GT} {n : Nat} {sm sr : Nat → Nat}
theorem l_allows (hG : GOK Γ) (hh : SnR M n sm sr) {v : Nat} (hv : v ≤ 1023) (h1 : (∀ k, k < n → v % sm k = sr k) → Q (some (VI 1)) (W0 L) M) (h0 : (¬ ∀ k, k < n → v % sm k = sr k) → Q (some (VI 0)) (W0 L) M) : ∀ (j k : Nat), k + j = n → (∀ i, i < k → v % sm i = sr i) → wp Γ mX6_allows 12 [some (VR 149), some (VR a), some (VI v), some (VI k)] [] 0 0 (W0 L) M Q := by
  obtain ⟨s1, s2, s3⟩ := hh
  intro j
  induction j with
  | zero =>
    intro k hk hi
    refine vc_go hG 60 (B := bX6_allows) rfl ?_
    refine And.intro rfl (And.intro (fun b => And.intro (Or.inr rfl) (h1 (fun i hi2 => hi i (by omega)))) (fun b => by omega))
  | succ j ih =>
    intro k hk hi
    obtain ⟨t1, t2, t3, t4, t5⟩ := s3 k (by omega)
    refine vc_go hG 60 (B := bX6_allows) rfl ?_
    refine And.intro rfl (And.intro (fun b => by omega) (fun b => ?_))
    refine And.intro rfl (Exists.intro _ (And.intro rfl ?_))
    refine And.intro (Or.inl rfl) (Exists.intro k (And.intro rfl (And.intro (show k < 6 by omega) ?_)))
    rw [t1]
    refine And.intro (fun b => by omega) (fun b => ?_)
    refine And.intro ⟨by omega, by omega⟩ ?_
    refine And.intro rfl (Exists.intro _ (And.intro rfl ?_))
    refine And.intro (Or.inl rfl) (Exists.intro k (And.intro rfl (And.intro (show k < 6 by omega) ?_)))
    rw [t2]
    have em : (v : Int) % (sm k : Int) = ((v % sm k : Nat) : Int) := rfl
    rw [em]
    refine And.intro (fun c => ?_) (fun c => And.intro (Or.inl rfl) (h0 (fun hh => c (by rw [hh k (by omega)]))))
    have c : v % sm k = sr k := by omega
    refine And.intro (by omega) ?_
    refine wp_pre [some (VR 149), some (VR a), some (VI v), some (VI ((k + 1 : Nat) : Int))] _ ?_
    refine ih (k + 1) (by omega) (fun i hi2 => ?_)
    by_cases e : i = k
    · subst e; exact c
    · exact hi i (by omega)
theorem c_allows (hG : GOK Γ) (hh : SnR M n sm sr) (ha : NrL (W0 L) a) (ht : NrF M a G) {vI : Int} {v : Nat} (ev : vI = v) (hv : v ≤ 1023) (h1 : UN G n sm sr v → Q (some (VI 1)) (W0 L) M) (h0 : ¬ UN G n sm sr v → Q (some (VI 0)) (W0 L) M) : wp Γ mX6_allows 0 [some (VR 149), some (VR a), some (VI vI)] [] 0 0 (W0 L) M Q := by
  subst ev
  refine vc_go hG 60 (B := bX6_allows) rfl ?_
  refine And.intro ha.k ?_
  refine c_has hG ha ht (fun m em hm => ?_) (fun hm => ?_)
  · have : m = v := by omega
    subst this
    refine And.intro (fun b => ?_) (fun b => absurd b (by decide))
    exact l_allows hG hh hv (fun h9 => h1 ⟨hm, h9⟩) (fun h9 => h0 (fun hu => h9 hu.2)) n 0 (by omega) (fun i hi => by omega)
  · refine And.intro (fun b => absurd rfl b) (fun b => And.intro (Or.inl rfl) (h0 (fun hu => hm v rfl hu.1)))
theorem l_snMany (hG : GOK Γ) (hh : SnR M n sm sr) (ha : NrL (W0 L) a) (ht : NrF M a G) (h : Q (some (VI (cP (UN G n sm sr) 1024 : Nat))) (W0 L) M) : ∀ (j i : Nat), i + j = 512 → wp Γ mX6_howMany 4 [some (VR 149), some (VR a), some (VI (cP (UN G n sm sr) (2 * i + 1) : Nat)), some (VI ((2 * i + 1 : Nat) : Int))] [] 0 0 (W0 L) M Q := by
  have ev : ∀ i : Nat, ¬ UN G n sm sr (2 * i) := fun i hh => by have := UN_odd hh; omega
  intro j
  induction j with
  | zero =>
    intro i hi
    have e : i = 512 := by omega
    subst e
    refine vc_go hG 60 (B := bX6_howMany) rfl ?_
    refine And.intro (fun b => ?_) (fun b => by omega)
    have := cP_n (P := UN G n sm sr) (k := 1024) (ev 512)
    rw [← this] at h
    exact h
  | succ j ih =>
    intro i hi
    have hc := cP_le (UN G n sm sr) (2 * i + 1)
    have n1 := ih (i + 1) (by omega)
    have n2 : cP (UN G n sm sr) (2 * (i + 1) + 1) = cP (UN G n sm sr) (2 * i + 1 + 1) := cP_n (ev (i + 1))
    rw [n2] at n1
    have e3 : ((2 * i + 1 : Nat) : Int) + 2 = ((2 * (i + 1) + 1 : Nat) : Int) := by omega
    refine vc_go hG 60 (B := bX6_howMany) rfl ?_
    refine And.intro (fun b => by omega) (fun b => ?_)
    refine And.intro rfl ?_
    refine c_allows hG hh ha ht rfl (by omega) (fun hu => ?_) (fun hu => ?_)
    · refine And.intro (fun d => absurd d (by decide)) (fun d => ?_)
      refine And.intro (by omega) (And.intro (by omega) ?_)
      rw [cP_y hu] at n1
      rw [← e3] at n1
      exact n1
    · refine And.intro (fun d => ?_) (fun d => absurd rfl d)
      refine And.intro (by omega) ?_
      rw [cP_n hu] at n1
      rw [← e3] at n1
      exact n1
theorem c_snMany (hG : GOK Γ) (hh : SnR M n sm sr) (ha : NrL (W0 L) a) (ht : NrF M a G) (h : Q (some (VI (cP (UN G n sm sr) 1024 : Nat))) (W0 L) M) : wp Γ mX6_howMany 0 [some (VR 149), some (VR a)] [] 0 0 (W0 L) M Q := by
  refine vc_go hG 60 (B := bX6_howMany) rfl ?_
  have := l_snMany hG hh ha ht h 512 0 rfl
  have e : cP (UN G n sm sr) (2 * 0 + 1) = 0 := cP_n (fun hh => by have := UN_odd hh; omega)
  rw [e] at this
  exact this
theorem l_snLow (hG : GOK Γ) (hh : SnR M n sm sr) (ha : NrL (W0 L) a) (ht : NrF M a G) (h : ∀ r, isLst (UN G n sm sr) r → Q (some (VI r)) (W0 L) M) : ∀ (j i : Nat), i + j = 512 → (∀ e, e < 2 * i + 1 → ¬ UN G n sm sr e) → wp Γ mX6_lowest 2 [some (VR 149), some (VR a), some (VI ((2 * i + 1 : Nat) : Int))] [] 0 0 (W0 L) M Q := by
  intro j
  induction j with
  | zero =>
    intro i hi hb
    refine vc_go hG 60 (B := bX6_lowest) rfl ?_
    refine And.intro (fun b => ?_) (fun b => by omega)
    refine h (-9) (Or.inl ⟨rfl, fun e he => ?_⟩)
    have := UN_odd he
    exact hb e (by omega) he
  | succ j ih =>
    intro i hi hb
    have e3 : ((2 * i + 1 : Nat) : Int) + 2 = ((2 * (i + 1) + 1 : Nat) : Int) := by omega
    refine vc_go hG 60 (B := bX6_lowest) rfl ?_
    refine And.intro (fun b => by omega) (fun b => ?_)
    refine And.intro rfl ?_
    refine c_allows hG hh ha ht rfl (by omega) (fun hu => ?_) (fun hu => ?_)
    · refine And.intro (fun d => absurd d (by decide)) (fun d => ?_)
      exact h _ (Or.inr ⟨2 * i + 1, rfl, hu, hb⟩)
    · refine And.intro (fun d => ?_) (fun d => absurd rfl d)
      refine And.intro (by omega) ?_
      rw [e3]
      refine ih (i + 1) (by omega) (fun e he => ?_)
      by_cases q1 : e = 2 * i + 1
      · subst q1; exact hu
      · by_cases q2 : e = 2 * i + 2
        · subst q2; intro hh; have := UN_odd hh; omega
        · exact hb e (by omega)
theorem c_snLow (hG : GOK Γ) (hh : SnR M n sm sr) (ha : NrL (W0 L) a) (ht : NrF M a G) (h : ∀ r, isLst (UN G n sm sr) r → Q (some (VI r)) (W0 L) M) : wp Γ mX6_lowest 0 [some (VR 149), some (VR a)] [] 0 0 (W0 L) M Q := by
  refine vc_go hG 60 (B := bX6_lowest) rfl ?_
  refine l_snLow hG hh ha ht h 512 0 rfl (fun e he hh => ?_)
  have := UN_odd hh
  omega
end Seen
