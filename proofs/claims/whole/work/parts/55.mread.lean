/-! ===== the model: reading ===== -/
def frD (M M' : MM) : Prop := (∀ a, a ≠ 187 → a ≠ 189 → a ≠ 197 → a ≠ 198 → M' a = M a) ∧ (∀ j, (j < 3 ∨ (7 < j ∧ j ≠ 20)) → M' 187 j = M 187 j) ∧ (OB M → OB M')
theorem frD.t {M M' M2 : MM} (h1 : frD M M') (h2 : frD M' M2) : frD M M2 := ⟨fun a a1 a2 a3 a4 => (h2.1 a a1 a2 a3 a4).trans (h1.1 a a1 a2 a3 a4), fun j hj => (h2.2.1 j hj).trans (h1.2.1 j hj), fun z => h2.2.2 (h1.2.2 z)⟩
theorem frD_r (M : MM) : frD M M := ⟨fun _ _ _ _ _ => rfl, fun _ _ => rfl, fun z => z⟩
theorem frT.d {M M' : MM} (h : frT M M') : frD M M' := ⟨fun a a1 _ _ _ => h.1 a a1, fun j hj => h.2 j (by omega), fun z => z.keep (h.1 197 (by decide)) (h.1 198 (by decide))⟩
theorem frK.d {M M' : MM} (h : frK M M') : frD M M' := ⟨fun a a1 _ a3 a4 => h.1 a a1 a3 a4, fun j hj => h.2.1 j (by omega), h.2.2⟩
theorem frD_7 (M : MM) (x : Int) : frD M (upM M 187 7 x) := ⟨fun a a1 _ _ _ => upM_ne a1, fun j hj => upM_k (by omega), fun z => z.up3 (by decide) (by decide)⟩
theorem frD_9 {M M' : MM} (h : ∀ b, b ≠ 189 → M' b = M b) : frD M M' := ⟨fun a _ a2 _ _ => h a a2, fun j _ => by rw [h 187 (by decide)], fun z => z.keep (h 197 (by decide)) (h 198 (by decide))⟩
def RW (M : MM) (n : Nat) (T : Nat → Nat) (t : TK) (G : GT) : Prop := mTx M n T ∧ M 187 7 = -1 ∧ mTk M t ∧ RwR M 189 G ∧ WFG G ∧ OB M ∧ tS t ≤ n ∧ tB t ≤ n
def RF (M : MM) (n : Nat) (T : Nat → Nat) (f : Nat) : Prop := mTx M n T ∧ M 187 7 = f ∧ OB M ∧ f ≤ n
theorem RW.rk {M M' : MM} {n : Nat} {T : Nat → Nat} {t : TK} {G : GT} (h : RW M n T t G) (hf : frK M M') : RW M' n T t G := by
  obtain ⟨h1, h2, h3, h4, h5, h6, h7⟩ := h
  refine ⟨h1.keep (hf.2.1 2 (by decide)) (hf.1 188 (by decide) (by decide) (by decide)), by rw [hf.2.1 7 (by decide)]; exact h2, ?_, h4.keep (hf.1 189 (by decide) (by decide) (by decide)), h5, hf.2.2 h6, h7⟩
  unfold mTk
  rw [hf.2.1 3 (by decide), hf.2.1 4 (by decide), hf.2.1 5 (by decide), hf.2.1 6 (by decide)]
  exact h3
theorem RW.rw {M M' : MM} {n : Nat} {T : Nat → Nat} {t : TK} {G G' : GT} (h : RW M n T t G) (hf : ∀ b, b ≠ 189 → M' b = M b) (hr : RwR M' 189 G') (hw : WFG G') : RW M' n T t G' := by
  obtain ⟨h1, h2, h3, h4, h5, h6, h7⟩ := h
  refine ⟨h1.keep (by rw [hf 187 (by decide)]) (hf 188 (by decide)), by rw [hf 187 (by decide)]; exact h2, ?_, hr, hw, h6.keep (hf 197 (by decide)) (hf 198 (by decide)), h7⟩
  unfold mTk
  rw [hf 187 (by decide)]
  exact h3
theorem RW.ft {M : MM} {n : Nat} {T : Nat → Nat} {t : TK} {G : GT} (h : RW M n T t G) : RF (upM M 187 7 (M 187 5)) n T (tS t) := by
  obtain ⟨h1, h2, h3, h4, h5, h6, h7⟩ := h
  exact ⟨h1.keep (upM_k (by decide)) (upM_ne (by decide)), by rw [upM_eq]; exact h3.2.1, h6.up3 (by decide) (by decide), h7.1⟩
theorem RF.k {M M' : MM} {n f : Nat} {T : Nat → Nat} (h : RF M n T f) (hf : ∀ b, b ≠ 189 → M' b = M b) : RF M' n T f := by
  obtain ⟨h1, h2, h3, h4⟩ := h
  exact ⟨h1.keep (by rw [hf 187 (by decide)]) (hf 188 (by decide)), by rw [hf 187 (by decide)]; exact h2, h3.keep (hf 197 (by decide)) (hf 198 (by decide)), h4⟩
theorem tk_num {k v : Int} {t : TK} (h : tkV k v t) {lo hi : Nat} {hI lI : Int} (el : lI = lo) (eh : hI = hi) : (k = 2 ∧ lI ≤ v ∧ v ≤ hI) ↔ isN t lo hi := by
  subst el eh
  obtain ⟨h1, h2, h3, h4, h5⟩ := h
  unfold isN
  constructor
  · rintro ⟨a1, a2, a3⟩
    have e : tK t = -2 := by
      by_cases q1 : tK t = -1
      · have := h1 q1; omega
      · by_cases q3 : tK t = -3
        · have := h3 q3; omega
        · by_cases q2 : 0 ≤ tK t
          · have h6 := (h4 q2).2
            rw [a1] at h6
            split at h6
            · omega
            · split at h6 <;> omega
          · omega
    have := (h2 e).2
    exact ⟨e, by omega, by omega⟩
  · rintro ⟨a1, a2, a3⟩
    have := h2 a1
    exact ⟨this.1, by omega, by omega⟩
theorem tk_stop {k v : Int} {t : TK} (h : tkV k v t) : k = 3 ↔ tK t = 59 := by
  obtain ⟨h1, h2, h3, h4, h5⟩ := h
  by_cases q1 : tK t = -1
  · have := h1 q1; omega
  · by_cases q3 : tK t = -3
    · have := h3 q3; omega
    · by_cases q2 : tK t = -2
      · have := h2 q2; omega
      · have h6 := (h4 (by omega)).2
        rw [h6]
        split
        · omega
        · split <;> omega
theorem tk_end {k v : Int} {t : TK} (h : tkV k v t) : k = 0 ↔ tK t = -1 := by
  obtain ⟨h1, h2, h3, h4, h5⟩ := h
  by_cases q1 : tK t = -1
  · have := h1 q1; omega
  · by_cases q3 : tK t = -3
    · have := h3 q3; omega
    · by_cases q2 : tK t = -2
      · have := h2 q2; omega
      · have h6 := (h4 (by omega)).2
        rw [h6]
        split
        · omega
        · split <;> omega
theorem tk_let {k v : Int} {t : TK} (h : tkV k v t) : (k = 1 ↔ (tK t = 108 ∨ tK t = 119 ∨ tK t = 97)) ∧ (0 ≤ tK t → v = tK t) := by
  obtain ⟨h1, h2, h3, h4, h5⟩ := h
  refine ⟨?_, fun z => (h4 z).1⟩
  by_cases q1 : tK t = -1
  · have := h1 q1; omega
  · by_cases q3 : tK t = -3
    · have := h3 q3; omega
    · by_cases q2 : tK t = -2
      · have := h2 q2; omega
      · have h6 := (h4 (by omega)).2
        rw [h6]
        split
        · omega
        · split <;> omega
section Mod
variable {Γ : GG} {L : Nat} {M : MM} {Q : QT} {n : Nat} {T : Nat → Nat} {G : GT} {t : TK}
theorem m_isWell (hG : GOK Γ) (h1 : M 187 7 < 0 → Q (some (VI 1)) (W0 L) M) (h0 : 0 ≤ M 187 7 → Q (some (VI 0)) (W0 L) M) : wp Γ mX10_isWell 0 [some (VR 187)] [] 0 0 (W0 L) M Q := by
  refine vc_go hG 60 (B := bX10_isWell) rfl ?_
  exact And.intro rfl (And.intro (fun y => And.intro (Or.inl rfl) (h0 y)) (fun y => And.intro (Or.inr rfl) (h1 y)))
theorem m_takesF (hG : GOK Γ) (hf : 0 ≤ M 187 7) {z : Int} (h : Q (some (VI 0)) (W0 L) M) : wp Γ mX10_takes 0 [some (VR 187), some (VI z)] [] 0 0 (W0 L) M Q := by
  refine vc_go hG 60 (B := bX10_takes) rfl ?_
  refine And.intro rfl ?_
  refine m_isWell hG (fun y => by omega) (fun y => ?_)
  exact And.intro (fun y => absurd rfl y) (fun y => h)
theorem m_takes0 (hG : GOK Γ) (hf : M 187 7 = -1) (h : Q (some (VI 0)) (W0 L) (upM M 187 7 (M 187 5))) : wp Γ mX10_takes 0 [some (VR 187), some (VI 0)] [] 0 0 (W0 L) M Q := by
  refine vc_go hG 60 (B := bX10_takes) rfl ?_
  refine And.intro rfl ?_
  refine m_isWell hG (fun y => ?_) (fun y => by omega)
  refine And.intro (fun y => ?_) (fun y => absurd y (by decide))
  refine And.intro (fun y => absurd rfl y) (fun y => ?_)
  exact And.intro rfl (And.intro rfl h)
theorem m_takes1 (hG : GOK Γ) (hw : RW M n T t G) (h : ∀ M', RW M' n T (tok T n (tB t)) G → frD M M' → (∀ a, a ≠ 187 → M' a = M a) → Q (some (VI (M 187 6))) (W0 L) M') : wp Γ mX10_takes 0 [some (VR 187), some (VI 1)] [] 0 0 (W0 L) M Q := by
  obtain ⟨h1, h2, h3, h4, h5, h6, h7, h8⟩ := hw
  refine vc_go hG 60 (B := bX10_takes) rfl ?_
  refine And.intro rfl ?_
  refine m_isWell hG (fun y => ?_) (fun y => by omega)
  refine And.intro (fun y => ?_) (fun y => absurd y (by decide))
  refine And.intro (fun y => ?_) (fun y => absurd y (by decide))
  refine And.intro rfl ?_
  refine And.intro rfl ?_
  refine m_advances hG h1 h8 h3.1 (fun M1 t1 f1 => ?_)
  have tb := tok_b (T := T) h8
  exact h M1 ⟨h1.fr f1, by rw [f1.2 7 (by decide)]; exact h2, t1, h4.keep (f1.1 189 (by decide)), h5, f1.d.2.2 h6, Nat.le_trans tb.2.1 tb.2.2.1, tb.2.2.1⟩ f1.d f1.1
theorem m_isNumber (hG : GOK Γ) {lo hi : Int} (h1 : (M 187 4 = 2 ∧ lo ≤ M 187 6 ∧ M 187 6 ≤ hi) → Q (some (VI 1)) (W0 L) M) (h0 : ¬ (M 187 4 = 2 ∧ lo ≤ M 187 6 ∧ M 187 6 ≤ hi) → Q (some (VI 0)) (W0 L) M) : wp Γ mX10_isNumber 0 [some (VR 187), some (VI lo), some (VI hi)] [] 0 0 (W0 L) M Q := by
  refine vc_go hG 60 (B := bX10_isNumber) rfl ?_
  refine And.intro rfl (And.intro (fun y => And.intro (Or.inl rfl) (h0 (fun z => y z.1))) (fun y => ?_))
  refine And.intro rfl ?_
  refine m_in hG (fun z => ?_) (fun z => And.intro (fun c => And.intro (Or.inl rfl) (h0 (fun x => z x.2))) (fun c => absurd rfl c))
  exact And.intro (fun c => absurd c (by decide)) (fun c => And.intro (Or.inr rfl) (h1 ⟨y, z⟩))
/-- a number is asked for, and taken -/
theorem m_num (hG : GOK Γ) (hw : RW M n T t G) {lI hI : Int} {lo hi : Nat} (el : lI = lo) (eh : hI = hi) (h1 : isN t lo hi → Q (some (VI 1)) (W0 L) M) (h0 : ¬ isN t lo hi → Q (some (VI 0)) (W0 L) M) : wp Γ mX10_isNumber 0 [some (VR 187), some (VI lI), some (VI hI)] [] 0 0 (W0 L) M Q := by
  have e := tk_num hw.2.2.1.2.2 el eh
  exact m_isNumber hG (fun z => h1 (e.1 z)) (fun z => h0 (fun x => z (e.2 x)))
theorem RW.v {lo hi : Nat} (hw : RW M n T t G) (h : isN t lo hi) : M 187 6 = tN t := (hw.2.2.1.2.2.2.1 h.1).2
def MdY (Q : QT) (L : Nat) (M : MM) (n : Nat) (T : Nat → Nat) (R : RS) : Prop := ∀ (M' : MM) (b' : Nat) (G' : GT), R = rdSemi T n b' G' → b' ≤ n → RW M' n T (tok T n b') G' → frD M M' → Q none (W0 L) M'
def MdN (Q : QT) (L : Nat) (M : MM) (n : Nat) (T : Nat → Nat) (R : RS) : Prop := ∀ (M' : MM) (f : Nat), R = .inl f → RF M' n T f → frD M M' → Q none (W0 L) M'
theorem MdY.s {M1 : MM} {R R' : RS} (h : MdY Q L M n T R) (e : R = R') (hf : frD M M1) : MdY Q L M1 n T R' := fun M' b' G' z1 z2 z3 z4 => h M' b' G' (e.trans z1) z2 z3 (hf.t z4)
theorem MdN.s {M1 : MM} {R R' : RS} (h : MdN Q L M n T R) (e : R = R') (hf : frD M M1) : MdN Q L M1 n T R' := fun M' f z1 z2 z3 => h M' f (e.trans z1) z2 (hf.t z3)
-- an adder, once something was wrong
theorem fl42 (hG : GOK Γ) (hf : 0 ≤ M 187 7) (hb : OB M) {l p s q : Nat} (hl : M 189 56 = l) (hp : p ≤ 12) (hs : s ≤ 9) (hq : q ≤ 12) {nI pI sI qI : Int} (ep : pI = p) (es : sI = s) (eq : qI = q) (h : Q none (W0 L) M) : wp Γ mX10_readsAdder 42 [some (VR 187), some (VI nI), some (VI pI), some (VI sI), some (VI qI)] [] 0 0 (W0 L) M Q := by
  subst ep es eq
  refine vc_goS hG 60 [94] (B := bX10_readsAdder) rfl ?_
  have fin : ∀ z : Int, wp Γ mX10_readsAdder 94 [some (VR 187), some (VI nI), some (VI (p : Nat)), some (VI (s : Nat)), some (VI (q : Nat))] [VI z, VR 187] 0 0 (W0 L) M Q := by
    intro z
    refine vc_go hG 60 (B := bX10_readsAdder) rfl ?_
    refine And.intro rfl ?_
    refine m_takesF hG hf ?_
    refine And.intro rfl ?_
    refine m_isWell hG (fun y => by omega) (fun y => ?_)
    exact And.intro (fun y => h) (fun y => absurd rfl y)
  refine And.intro rfl ?_
  refine m_isWell hG (fun y => by omega) (fun y => ?_)
  refine And.intro (fun y => ?_) (fun y => absurd rfl y)
  refine And.intro rfl ?_
  refine m_isNumber hG (fun z => ?_) (fun z => ?_)
  · refine And.intro (fun y => absurd y (by decide)) (fun y => ?_)
    refine And.intro rfl ?_
    refine And.intro rfl (Exists.intro _ (And.intro rfl ?_))
    refine And.intro (Or.inl rfl) (Exists.intro (56) (And.intro (by omega) (And.intro (show 56 < 57 by omega) ?_)))
    refine And.intro rfl ?_
    refine m_mayBeB hG (m := 14) (V := fun k => (M 197 k).toNat) (D := fun k => (M 198 k).toNat) (fun k hk => by have := hb k hk; constructor <;> omega) (fun k hk => by have := hb k hk; show (M 197 k).toNat ≤ 1023; omega) (fun k hk => by have := hb k hk; show (M 198 k).toNat ≤ 13; omega) (by decide) rfl rfl rfl (f := (M 187 6).toNat) (by omega) hl (by omega) hs (by omega) (by omega) (fun mb => ?_) (fun mb => ?_)
    · exact And.intro (fun y => absurd y (by decide)) (fun y => fin 1)
    · exact And.intro (fun y => fin 0) (fun y => absurd rfl y)
  · exact And.intro (fun y => fin 0) (fun y => absurd rfl y)
theorem fl30 (hG : GOK Γ) (hf : 0 ≤ M 187 7) (hb : OB M) {l p s : Nat} (hl : M 189 56 = l) (hp : p ≤ 12) (hs : s ≤ 9) {nI pI sI : Int} (ep : pI = p) (es : sI = s) (h : Q none (W0 L) M) : wp Γ mX10_readsAdder 30 [some (VR 187), some (VI nI), some (VI pI), some (VI sI)] [] 0 0 (W0 L) M Q := by
  refine vc_goS hG 60 [42] (B := bX10_readsAdder) rfl ?_
  have fin := fl42 (Q := Q) (L := L) hG hf hb (nI := nI) (q := 0) hl hp hs (by decide) ep es rfl h
  refine And.intro rfl ?_
  refine m_isNumber hG (fun z => ?_) (fun z => ?_)
  · refine And.intro rfl ?_
    exact m_takesF hG hf fin
  · refine And.intro rfl ?_
    exact m_takesF hG hf fin
theorem fl18 (hG : GOK Γ) (hf : 0 ≤ M 187 7) (hb : OB M) {l p : Nat} (hl : M 189 56 = l) (hp : p ≤ 12) {nI pI : Int} (ep : pI = p) (h : Q none (W0 L) M) : wp Γ mX10_readsAdder 18 [some (VR 187), some (VI nI), some (VI pI)] [] 0 0 (W0 L) M Q := by
  refine vc_goS hG 60 [30] (B := bX10_readsAdder) rfl ?_
  have fin := fl30 (Q := Q) (L := L) hG hf hb (nI := nI) (s := 0) hl hp (by decide) ep rfl h
  refine And.intro rfl ?_
  refine m_isNumber hG (fun z => ?_) (fun z => ?_)
  · refine And.intro rfl ?_
    exact m_takesF hG hf fin
  · refine And.intro rfl ?_
    exact m_takesF hG hf fin
end Mod
