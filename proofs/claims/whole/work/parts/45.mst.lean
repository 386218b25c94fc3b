/-! ===== the model: what is there ===== -/
/-- a row that begins at o -/
def RwO (M : MM) (a o : Nat) (G : GT) : Prop := RwR (fun b i => M b (o + i)) a G
theorem RwO.keep {M M' : MM} {a o : Nat} {G : GT} (h : RwO M a o G) (hf : M' a = M a) : RwO M' a o G := RwR.keep (M := fun b i => M b (o + i)) (M' := fun b i => M' b (o + i)) h (by show (fun i => M' a (o + i)) = fun i => M a (o + i); rw [hf])
def mTx (M : MM) (n : Nat) (T : Nat → Nat) : Prop := M 187 2 = n ∧ n ≤ 80 ∧ ∀ k, k < n → M 188 k = T k ∧ T k ≤ 255
def mHs (M : MM) (hk : Nat) (Hs : Nat → GT) : Prop := M 187 14 = hk ∧ hk ≤ 10 ∧ ∀ i, i < hk → RwO M 194 (57 * (hk - 1 - i)) (Hs i) ∧ WFG (Hs i)
def mIm (M : MM) (ik : Nat → Nat) (Im : Nat → GT) : Prop := ∀ i, i < 2 → M 193 i = ik i ∧ ik i ≤ 1 ∧ (ik i = 1 → RwO M 192 (57 * i) (Im i) ∧ WFG (Im i))
def mSn (M : MM) (n : Nat) (sm sr : Nat → Nat) : Prop := M 187 17 = n ∧ n ≤ 6 ∧ ∀ k, k < n → M 195 k = sm k ∧ M 196 k = sr k ∧ 2 ≤ sm k ∧ sm k ≤ 9 ∧ sr k < sm k
def MR (M : MM) (S : ST) : Prop := RwR M 190 (sG S) ∧ WFG (sG S) ∧ mTx M (sn S) (sT S) ∧ mHs M (sk S) (sH S) ∧ mIm M (sx S) (sI S) ∧ mSn M (su S) (sM S) (sR S)
def frM (M M' : MM) : Prop := (∀ a, a < 187 → M' a = M a) ∧ (OB M → OB M')
theorem frM.t {M M' M2 : MM} (h1 : frM M M') (h2 : frM M' M2) : frM M M2 := ⟨fun a ha => (h2.1 a ha).trans (h1.1 a ha), fun z => h2.2 (h1.2 z)⟩
theorem frM.o {M M' : MM} (h : ∀ a, (a < 187 ∨ a = 197 ∨ a = 198) → M' a = M a) : frM M M' := ⟨fun a ha => h a (Or.inl ha), fun z => z.keep (h 197 (by decide)) (h 198 (by decide))⟩
def OutM (Q : QT) (L : Nat) (M : MM) (rs : Int × ST) : Prop := ∀ M', MR M' rs.2 → frM M M' → Q (some (VI rs.1)) (W0 L) M'
theorem OutM.go {Q : QT} {L : Nat} {M M' : MM} {rs : Int × ST} {r : Int} {S' : ST} (h : OutM Q L M rs) (e : rs = (r, S')) {x : Int} (hx : x = r) (hc : MR M' S') (hf : frM M M') : Q (some (VI x)) (W0 L) M' := by
  subst e hx
  exact h M' hc hf
theorem mTx.keep {M M' : MM} {n : Nat} {T : Nat → Nat} (h : mTx M n T) (h1 : M' 187 2 = M 187 2) (h2 : M' 188 = M 188) : mTx M' n T := by
  unfold mTx
  rw [h1, h2]
  exact h
theorem mHs.keep {M M' : MM} {hk : Nat} {Hs : Nat → GT} (h : mHs M hk Hs) (h1 : M' 187 14 = M 187 14) (h2 : M' 194 = M 194) : mHs M' hk Hs := ⟨h1.trans h.1, h.2.1, fun i hi => ⟨(h.2.2 i hi).1.keep h2, (h.2.2 i hi).2⟩⟩
theorem mIm.keep {M M' : MM} {ik : Nat → Nat} {Im : Nat → GT} (h : mIm M ik Im) (h1 : M' 193 = M 193) (h2 : M' 192 = M 192) : mIm M' ik Im := fun i hi => ⟨by rw [h1]; exact (h i hi).1, (h i hi).2.1, fun z => ⟨((h i hi).2.2 z).1.keep h2, ((h i hi).2.2 z).2⟩⟩
theorem mSn.keep {M M' : MM} {n : Nat} {sm sr : Nat → Nat} (h : mSn M n sm sr) (h1 : M' 187 17 = M 187 17) (h2 : M' 195 = M 195) (h3 : M' 196 = M 196) : mSn M' n sm sr := by
  unfold mSn
  rw [h1, h2, h3]
  exact h
/-- what is there lies in these cells -/
theorem MR.keep {M M' : MM} {S : ST} (h : MR M S) (h1 : ∀ j, (j = 2 ∨ j = 14 ∨ j = 17) → M' 187 j = M 187 j) (h2 : ∀ a, a = 188 ∨ a = 190 ∨ (192 ≤ a ∧ a ≤ 196) → M' a = M a) : MR M' S := by
  obtain ⟨c1, c2, c3, c4, c5, c6⟩ := h
  exact ⟨c1.keep (h2 190 (by omega)), c2, c3.keep (h1 2 (by omega)) (h2 188 (by omega)), c4.keep (h1 14 (by omega)) (h2 194 (by omega)), c5.keep (h2 193 (by omega)) (h2 192 (by omega)), c6.keep (h1 17 (by omega)) (h2 195 (by omega)) (h2 196 (by omega))⟩
/-- the beginning of each: nothing is thrown -/
theorem MR.th {M : MM} {S : ST} (h : MR M S) : MR (upM M 187 0 0) S := h.keep (fun j hj => upM_k (by omega)) (fun a ha => upM_ne (by omega))
theorem frM_th (M : MM) : frM M (upM M 187 0 0) := frM.o (fun a ha => upM_ne (by omega))
section Mod
variable {Γ : GG} {L : Nat} {M : MM} {Q : QT} {S : ST}
theorem y_type (hG : GOK Γ) (hc : MR M S) {l : Int} (h : OutM Q L M (fType S l)) : wp Γ mX10_type 0 [some (VR 187), some (VI l)] [] 0 0 (W0 L) M Q := by
  obtain ⟨c1, c2, c3, c4, c5, c6⟩ := hc.th
  obtain ⟨t1, t2, t3⟩ := id c3
  refine vc_go hG 60 (B := bX10_type) rfl ?_
  refine And.intro rfl ?_
  refine m_in hG (fun z => ?_) (fun z => And.intro (fun c => absurd rfl c) (fun c => h.go (cit_n z) rfl hc.th (frM_th M)))
  have e1 : fType S l = _ := cit_y z
  refine And.intro (fun c => ?_) (fun c => absurd c (by decide))
  refine And.intro rfl (And.intro (fun y => ?_) (fun y => h.go (e1.trans (cit_n (by omega))) rfl hc.th (frM_th M)))
  have hn : sn S < 80 := by omega
  refine And.intro rfl (Exists.intro _ (And.intro rfl (And.intro rfl ?_)))
  refine And.intro rfl (Exists.intro (sn S) (And.intro t1 (And.intro (show sn S < 80 from hn) ?_)))
  refine And.intro rfl (And.intro ?_ (And.intro rfl (And.intro rfl ?_)))
  · rw [upM_a (by decide), t1]; omega
  refine h.go (e1.trans (cit_y hn)) ?_ ⟨c1.keep (by rw [upM_ne (by decide), upM_ne (by decide)]), c2, ⟨?_, by show sn S + 1 ≤ 80; omega, fun k hk => ?_⟩, c4.keep (by rw [upM_k (by decide), upM_a (by decide)]) (by rw [upM_ne (by decide), upM_ne (by decide)]), c5.keep (by rw [upM_ne (by decide), upM_ne (by decide)]) (by rw [upM_ne (by decide), upM_ne (by decide)]), c6.keep (by rw [upM_k (by decide), upM_a (by decide)]) (by rw [upM_ne (by decide), upM_ne (by decide)]) (by rw [upM_ne (by decide), upM_ne (by decide)])⟩ (frM.o (fun a ha => by rw [upM_ne (by omega), upM_ne (by omega), upM_ne (by omega)]))
  · rw [upM_eq, upM_a (by decide), t1]
  · rw [upM_eq, upM_a (by decide), t1]; rfl
  · have hk : k < sn S + 1 := hk
    rw [upM_a (by decide)]
    show _ = ((upN (sT S) (sn S) l.toNat k : Nat) : Int) ∧ upN (sT S) (sn S) l.toNat k ≤ 255
    by_cases q : k = sn S
    · subst q
      rw [upM_eq, upN_eq]
      omega
    · rw [upM_k q, upN_ne q]
      exact t3 k (by omega)
theorem y_clear (hG : GOK Γ) (hc : MR M S) (h : OutM Q L M (fClear S)) : wp Γ mX10_clear 0 [some (VR 187)] [] 0 0 (W0 L) M Q := by
  obtain ⟨c1, c2, c3, c4, c5, c6⟩ := hc.th
  refine vc_go hG 60 (B := bX10_clear) rfl ?_
  refine And.intro rfl (And.intro rfl (And.intro rfl ?_))
  exact h.go rfl c3.1 ⟨c1.keep (upM_ne (by decide)), c2, ⟨upM_eq, Nat.zero_le _, fun k hk => absurd hk (Nat.not_lt_zero k)⟩, c4.keep (upM_k (by decide)) (upM_ne (by decide)), c5.keep (upM_ne (by decide)) (upM_ne (by decide)), c6.keep (upM_k (by decide)) (upM_ne (by decide)) (upM_ne (by decide))⟩ (frM.o (fun a ha => by rw [upM_ne (by omega), upM_ne (by omega)]))
end Mod
