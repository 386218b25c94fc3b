/-! ===== the model: unseen, next ===== -/
theorem cP_cong {P P' : Nat → Prop} (h : ∀ v, P v ↔ P' v) : ∀ k, cP P k = cP P' k
  | 0 => rfl
  | k + 1 => by
    by_cases q : P k
    · rw [cP_y q, cP_y ((h k).1 q), cP_cong h k]
    · rw [cP_n q, cP_n (fun z => q ((h k).2 z)), cP_cong h k]
section Mod
variable {Γ : GG} {L : Nat} {M : MM} {Q : QT} {S : ST} {G : GT} {n : Nat} {sm sr : Nat → Nat}
theorem l_canBe (hG : GOK Γ) (hh : mSn M n sm sr) {v : Nat} (hv : v < 1024) (h1 : UN G n sm sr v → Q (some (VI 1)) (W0 L) M) (h0 : ¬ UN G n sm sr v → Q (some (VI 0)) (W0 L) M) : ∀ (j k : Nat) (z : Int), k + j = n → ((z = 1 ∧ isNr G v ∧ ∀ i, i < k → v % sm i = sr i) ∨ (z = 0 ∧ ¬ UN G n sm sr v)) → wp Γ mX10_canBe 17 [some (VR 187), some (VI v), some (VI z), some (VI k)] [] 0 0 (W0 L) M Q := by
  obtain ⟨t1, t2, t3⟩ := hh
  intro j
  induction j with
  | zero =>
    intro k z hk hz
    have e : k = n := by omega
    subst e
    refine vc_go hG 60 (B := bX10_canBe) rfl ?_
    refine And.intro rfl (And.intro (fun y => ?_) (fun y => by omega))
    rcases hz with ⟨z1, z2, z3⟩ | ⟨z1, z2⟩
    · subst z1
      exact And.intro (Or.inr rfl) (h1 ⟨z2, z3⟩)
    · subst z1
      exact And.intro (Or.inl rfl) (h0 z2)
  | succ j ih =>
    intro k z hk hz
    obtain ⟨u1, u2, u3, u4, u5⟩ := t3 k (by omega)
    have em : (v : Int) % (M 195 k) = ((v % sm k : Nat) : Int) := by rw [u1]; rfl
    refine vc_go hG 60 (B := bX10_canBe) rfl ?_
    refine And.intro rfl (And.intro (fun y => by omega) (fun y => ?_))
    rcases hz with ⟨z1, z2, z3⟩ | ⟨z1, z2⟩
    · refine And.intro (fun y2 => by omega) (fun y2 => ?_)
      refine And.intro rfl (Exists.intro _ (And.intro rfl ?_))
      refine And.intro (Or.inl rfl) (Exists.intro (k) (And.intro (by omega) (And.intro (show k < 6 by omega) ?_)))
      refine And.intro ⟨by omega, by omega⟩ ?_
      rw [em]
      refine And.intro rfl (Exists.intro _ (And.intro rfl ?_))
      refine And.intro (Or.inl rfl) (Exists.intro (k) (And.intro (by omega) (And.intro (show k < 6 by omega) ?_)))
      refine And.intro (fun y3 => ?_) (fun y3 => ?_)
      · refine And.intro (by omega) (ih (k + 1) 0 (by omega) (Or.inr ⟨rfl, fun x => ?_⟩))
        have := x.2 k (by omega)
        omega
      · refine And.intro (by omega) (ih (k + 1) 1 (by omega) (Or.inl ⟨rfl, z2, fun i hi => ?_⟩))
        by_cases q : i = k
        · subst q; omega
        · exact z3 i (by omega)
    · refine And.intro (fun y2 => ?_) (fun y2 => by omega)
      exact And.intro (by omega) (ih (k + 1) 0 (by omega) (Or.inr ⟨rfl, z2⟩))
theorem m_canBe (hG : GOK Γ) (ht : NF M G) (hh : mSn M n sm sr) {vI : Int} {v : Nat} (ev : vI = v) (hv : v < 1024) (h1 : UN G n sm sr v → Q (some (VI 1)) (W0 L) M) (h0 : ¬ UN G n sm sr v → Q (some (VI 0)) (W0 L) M) : wp Γ mX10_canBe 0 [some (VR 187), some (VI vI)] [] 0 0 (W0 L) M Q := by
  subst ev
  refine vc_go hG 60 (B := bX10_canBe) rfl ?_
  refine And.intro rfl (Exists.intro _ (And.intro rfl ?_))
  refine And.intro (Or.inl rfl) (Exists.intro (v) (And.intro (by omega) (And.intro (show v < 1024 by omega) ?_)))
  rcases ht.nr hv with ⟨a1, a2, -⟩ | ⟨a1, a2⟩
  · refine And.intro (fun y => by omega) (fun y => ?_)
    exact l_canBe hG hh hv h1 h0 n 0 1 (by omega) (Or.inl ⟨rfl, a1, fun i hi => absurd hi (Nat.not_lt_zero i)⟩)
  · refine And.intro (fun y => ?_) (fun y => by omega)
    exact l_canBe hG hh hv h1 h0 n 0 0 (by omega) (Or.inr ⟨rfl, fun x => a1 x.1⟩)
theorem l_munseen (hG : GOK Γ) (ht : NF M G) (hh : mSn M n sm sr) {w : Int} (h : ∀ x l, LW (UN G n sm sr) 1024 x l → Q (some (VI (if w = 0 then x else l))) (W0 L) M) : ∀ (j e : Nat) (x l : Int), e + j = 1024 → LW (UN G n sm sr) e x l → wp Γ mX10_unseen 32 [some (VR 187), some (VI w), some (VI x), some (VI l), some (VI e)] [] 0 0 (W0 L) M Q := by
  intro j
  induction j with
  | zero =>
    intro e x l hj hL
    have ee : e = 1024 := by omega
    subst ee
    have fin := h x l hL
    refine vc_go hG 60 (B := bX10_unseen) rfl ?_
    refine And.intro (fun y => ?_) (fun y => by omega)
    refine And.intro (fun y => ?_) (fun y => ?_)
    · rw [if_neg y] at fin
      exact fin
    · rw [if_pos y] at fin
      exact fin
  | succ j ih =>
    intro e x l hj hL
    have hb := hL.b
    refine vc_go hG 60 (B := bX10_unseen) rfl ?_
    refine And.intro (fun y => by omega) (fun y => ?_)
    refine And.intro rfl ?_
    refine m_canBe hG ht hh rfl (by omega) (fun a1 => ?_) (fun a1 => ?_)
    · refine And.intro (fun y => absurd y (by decide)) (fun y => ?_)
      refine And.intro (fun y4 => ?_) (fun y4 => ?_)
      · exact And.intro (by omega) (And.intro (by omega) (ih (e + 1) (x + 1) l (by omega) (hL.y a1 rfl (fun z => absurd z y4) (fun _ => rfl))))
      · exact And.intro (by omega) (And.intro (by omega) (ih (e + 1) (x + 1) e (by omega) (hL.y a1 rfl (fun _ => rfl) (fun z => absurd y4 z))))
    · refine And.intro (fun y => ?_) (fun y => absurd rfl y)
      exact And.intro (by omega) (ih (e + 1) x l (by omega) (hL.n a1))
theorem UN_0 : ¬ UN G n sm sr 0 := fun z => by have := UN_odd z; omega
theorem y_unseen (hG : GOK Γ) (hc : MR M S) {w : Int} (h : OutMR Q L M S (unsR S w)) : wp Γ mX10_unseen 0 [some (VR 187), some (VI w)] [] 0 0 (W0 L) M Q := by
  have hc0 := hc.th
  have f0 := frM_th M
  refine vc_go hG 60 (B := bX10_unseen) rfl ?_
  refine And.intro rfl ?_
  refine m_in hG (fun z => ?_) (fun z => And.intro (fun c => absurd rfl c) (fun c => h _ _ (Or.inl ⟨z, rfl⟩) hc0 f0))
  refine And.intro (fun y => ?_) (fun y => absurd y (by decide))
  refine And.intro rfl (Exists.intro _ (And.intro rfl ?_))
  refine And.intro rfl ?_
  refine m_nearsOf hG (RwL_s L) (by decide) (by decide) hc0.1 hc0.2.1 (fun M1 o1 t1 f1 => ?_)
  have hc1 := hc0.n9 f1
  refine l_munseen hG t1 hc1.2.2.2.2.2 (fun x l hL => ?_) 1023 1 0 (-9) rfl (LW_1 UN_0)
  refine h _ _ (Or.inr ⟨z, ?_⟩) hc1 (f0.t f1.m)
  by_cases c : w = 0
  · rw [if_pos c]
    exact Or.inl ⟨c, hL.1⟩
  · rw [if_neg c]
    exact Or.inr ⟨by omega, hL.l (fun e he => by have := UN_odd he; omega)⟩
theorem l_leaving (hG : GOK Γ) (ht : NF M G) (hh : mSn M n sm sr) {m r : Nat} (hm : 1 ≤ m) (h : Q (some (VI (cR (UN G n sm sr) m 1024 r : Nat))) (W0 L) M) : ∀ (j e : Nat), e + j = 1024 → wp Γ mX10_leaving 5 [some (VR 187), some (VI m), some (VI r), some (VI (cR (UN G n sm sr) m e r : Nat)), some (VI e)] [] 0 0 (W0 L) M Q := by
  intro j
  induction j with
  | zero =>
    intro e hj
    have ee : e = 1024 := by omega
    subst ee
    refine vc_go hG 60 (B := bX10_leaving) rfl ?_
    exact And.intro (fun y => h) (fun y => by omega)
  | succ j ih =>
    intro e hj
    have hb := cP_le (fun v => UN G n sm sr v ∧ v % m = r) e
    have nx := ih (e + 1) (by omega)
    unfold cR at nx ⊢
    have em : (e : Int) % (m : Int) = ((e % m : Nat) : Int) := rfl
    refine vc_go hG 60 (B := bX10_leaving) rfl ?_
    refine And.intro (fun y => by omega) (fun y => ?_)
    refine And.intro ⟨by omega, by omega⟩ ?_
    rw [em]
    refine And.intro (fun y2 => ?_) (fun y2 => ?_)
    · rw [cP_n (fun z => y2 (by rw [z.2]))] at nx
      exact And.intro (by omega) (And.intro (by omega) (by rw [Int.add_zero]; exact nx))
    · have y3 : e % m = r := by omega
      refine And.intro rfl ?_
      refine m_canBe hG ht hh rfl (by omega) (fun a1 => ?_) (fun a1 => ?_)
      · refine And.intro (fun y => absurd y (by decide)) (fun y => ?_)
        rw [cP_y ⟨a1, y3⟩] at nx
        exact And.intro (by omega) (And.intro (by omega) nx)
      · refine And.intro (fun y => ?_) (fun y => absurd rfl y)
        rw [cP_n (fun z => a1 z.1)] at nx
        exact And.intro (by omega) (And.intro (by omega) (by rw [Int.add_zero]; exact nx))
theorem m_leaving (hG : GOK Γ) (ht : NF M G) (hh : mSn M n sm sr) {mI rI : Int} {m r : Nat} (em : mI = m) (er : rI = r) (hm : 1 ≤ m) (h : Q (some (VI (cR (UN G n sm sr) m 1024 r : Nat))) (W0 L) M) : wp Γ mX10_leaving 0 [some (VR 187), some (VI mI), some (VI rI)] [] 0 0 (W0 L) M Q := by
  subst em er
  refine vc_go hG 60 (B := bX10_leaving) rfl ?_
  have := l_leaving hG ht hh hm h 1023 1 rfl
  unfold cR at this
  rw [cP_n (k := 0) (fun z => UN_0 z.1)] at this
  exact this
theorem nx56 (hG : GOK Γ) (ht : NF M G) (hh : mSn M n sm sr) {m : Nat} (hm : 2 ≤ m ∧ m ≤ 9) {a b c : Int} (h : wp Γ mX10_next 95 [some (VR 187), some (VI a), some (VI b), some (VI c), some (VI m), some (VI (mxD (cR (UN G n sm sr) m 1024) m : Nat))] [] 0 0 (W0 L) M Q) : ∀ (j r : Nat), r + j = m → wp Γ mX10_next 56 [some (VR 187), some (VI a), some (VI b), some (VI c), some (VI m), some (VI (mxD (cR (UN G n sm sr) m 1024) r : Nat)), some (VI r)] [] 0 0 (W0 L) M Q := by
  intro j
  induction j with
  | zero =>
    intro r hj
    have ee : r = m := by omega
    subst ee
    refine vc_goS hG 60 [95] (B := bX10_next) rfl ?_
    refine And.intro (fun y => ?_) (fun y => by omega)
    exact wp_pre [some (VR 187), some (VI a), some (VI b), some (VI c), some (VI r), some (VI (mxD (cR (UN G n sm sr) r 1024) r : Nat))] [some (VI r)] h
  | succ j ih =>
    intro r hj
    have nx := ih (r + 1) (by omega)
    rw [show mxD (cR (UN G n sm sr) m 1024) (r + 1) = max (mxD (cR (UN G n sm sr) m 1024) r) (cR (UN G n sm sr) m 1024 r) from rfl] at nx
    refine vc_go hG 60 (B := bX10_next) rfl ?_
    refine And.intro (fun y => by omega) (fun y => ?_)
    refine And.intro rfl ?_
    refine m_leaving hG ht hh rfl rfl (by omega) ?_
    generalize mxD (cR (UN G n sm sr) m 1024) r = A at *
    generalize cR (UN G n sm sr) m 1024 r = B at *
    refine And.intro (fun y2 => ?_) (fun y2 => ?_)
    · rw [show max A B = A by omega] at nx
      refine And.intro (by omega) ?_
      exact wp_pre [some (VR 187), some (VI a), some (VI b), some (VI c), some (VI m), some (VI A), some (VI ((r + 1 : Nat) : Int))] [some (VI B)] nx
    · rw [show max A B = B by omega] at nx
      refine And.intro (by omega) ?_
      exact wp_pre [some (VR 187), some (VI a), some (VI b), some (VI c), some (VI m), some (VI B), some (VI ((r + 1 : Nat) : Int))] [some (VI B)] nx
theorem nx39 (hG : GOK Γ) (ht : NF M G) (hh : mSn M n sm sr) (h : Q (some (VI (ak (UN G n sm sr) 8).1)) (W0 L) M) : ∀ (j i : Nat), i + j = 8 → wp Γ mX10_next 39 [some (VR 187), some (VI (ak (UN G n sm sr) i).1), some (VI (ak (UN G n sm sr) i).2), some (VI 1), some (VI ((i + 2 : Nat) : Int))] [] 0 0 (W0 L) M Q := by
  intro j
  induction j with
  | zero =>
    intro i hj
    have ee : i = 8 := by omega
    subst ee
    refine vc_go hG 60 (B := bX10_next) rfl ?_
    exact And.intro (fun y => h) (fun y => by omega)
  | succ j ih =>
    intro i hj
    have nx := ih (i + 1) (by omega)
    have ea : ak (UN G n sm sr) (i + 1) = if ((mxD (cR (UN G n sm sr) (i + 2) 1024) (i + 2) : Nat) : Int) < (ak (UN G n sm sr) i).2 then (((i + 2 : Nat) : Int), ((mxD (cR (UN G n sm sr) (i + 2) 1024) (i + 2) : Nat) : Int)) else ak (UN G n sm sr) i := rfl
    rw [ea] at nx
    refine vc_go hG 60 (B := bX10_next) rfl ?_
    refine And.intro (fun y => by omega) (fun y => ?_)
    refine And.intro (fun y => absurd y (by decide)) (fun y => ?_)
    refine nx56 hG ht hh (m := i + 2) (by omega) ?_ (i + 2) 0 (by omega)
    generalize mxD (cR (UN G n sm sr) (i + 2) 1024) (i + 2) = A at *
    refine vc_go hG 60 (B := bX10_next) rfl ?_
    refine And.intro (fun y2 => ?_) (fun y2 => ?_)
    · rw [if_neg (by omega)] at nx
      refine And.intro (fun y3 => ?_) (fun y3 => by omega)
      refine And.intro (by omega) ?_
      exact wp_pre [some (VR 187), some (VI (ak (UN G n sm sr) i).1), some (VI (ak (UN G n sm sr) i).2), some (VI 1), some (VI ((i + 1 + 2 : Nat) : Int))] [some (VI A)] nx
    · rw [if_pos y2] at nx
      refine And.intro (fun y3 => by omega) (fun y3 => ?_)
      refine And.intro (by omega) ?_
      exact wp_pre [some (VR 187), some (VI ((i + 2 : Nat) : Int)), some (VI (A : Int)), some (VI 1), some (VI ((i + 1 + 2 : Nat) : Int))] [some (VI A)] nx
theorem y_next (hG : GOK Γ) (hc : MR M S) (h : OutM Q L M (fNext S)) : wp Γ mX10_next 0 [some (VR 187)] [] 0 0 (W0 L) M Q := by
  have hc0 := hc.th
  have f0 := frM_th M
  refine vc_go hG 60 (B := bX10_next) rfl ?_
  refine And.intro rfl ?_
  refine And.intro rfl (Exists.intro _ (And.intro rfl ?_))
  refine And.intro rfl ?_
  refine m_nearsOf hG (RwL_s L) (by decide) (by decide) hc0.1 hc0.2.1 (fun M1 o1 t1 f1 => ?_)
  have hc1 := hc0.n9 f1
  have f2 := f0.t f1.m
  refine And.intro rfl ?_
  refine m_leaving hG t1 hc1.2.2.2.2.2 (m := 1) (r := 0) rfl rfl (Nat.le_refl _) ?_
  have e1 : cR (UN (sG S) (su S) (sM S) (sR S)) 1 1024 0 = cP (UN (sG S) (su S) (sM S) (sR S)) 1024 := cP_cong (fun v => ⟨fun z => z.1, fun z => ⟨z, Nat.mod_one v⟩⟩) 1024
  rw [e1]
  refine And.intro (fun y => ?_) (fun y => ?_)
  · refine vc_go hG 60 (B := bX10_next) rfl ?_
    refine And.intro (fun y => absurd y (by decide)) (fun _ => ?_)
    refine And.intro (fun _ => ?_) (fun y => absurd rfl y)
    exact h.go (cit_n (by omega)) rfl hc1 f2
  · exact nx39 hG t1 hc1.2.2.2.2.2 (h.go (cit_y (by omega)) rfl hc1 f2) 8 0 rfl
end Mod
