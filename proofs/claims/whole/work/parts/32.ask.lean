/-! ===== the class's Seen: ASK ===== -/
section Seen
variable {Γ : GG} {L : Nat} {M : MM} {Q : QT} {a : Nat} {G : GT} {n : Nat} {sm sr : Nat → Nat}
theorem l_left2 (hG : GOK Γ) (hh : SnR M n sm sr) (ha : NrL (W0 L) a) (ha2 : 152 < a + 1) (ht : NrF M a G) {m : Nat} (hm : 2 ≤ m ∧ m ≤ 9) (h : ∀ M', (∀ b, b ≠ 152 → M' b = M b) → Q (some (VI (mxD (cR (UN G n sm sr) m 1024) m : Nat))) (W0 L) M') : ∀ (j i : Nat) (M1 : MM), i + j = 512 → (∀ b, b ≠ 152 → M1 b = M b) → (∀ r, r < 9 → M1 152 r = (cR (UN G n sm sr) m (2 * i + 1) r : Nat)) → wp Γ mX6_greatestLeft 26 [some (VR 149), some (VR a), some (VI m), some (VI (mxD (cR (UN G n sm sr) m (2 * i + 1)) 9 : Nat)), some (VI ((2 * i + 1 : Nat) : Int))] [] 0 0 (W0 L) M1 Q := by
  have ev : ∀ i r : Nat, ¬ (UN G n sm sr (2 * i) ∧ 2 * i % m = r) := fun i r hh => by have := UN_odd hh.1; omega
  intro j
  induction j with
  | zero =>
    intro i M1 hi hf hr
    have e : i = 512 := by omega
    subst e
    refine vc_go hG 60 (B := bX6_greatestLeft) rfl ?_
    refine And.intro (fun b => ?_) (fun b => by omega)
    have e1 : mxD (cR (UN G n sm sr) m (2 * 512 + 1)) 9 = mxD (cR (UN G n sm sr) m 1024) m := by
      have c1 : ∀ r, cR (UN G n sm sr) m (2 * 512 + 1) r = cR (UN G n sm sr) m 1024 r := fun r => cP_n (ev 512 r)
      rw [mxD_cong 9 (fun r _ => c1 r)]
      have := mxD_more (D := cR (UN G n sm sr) m 1024) (j := m) (9 - m) (fun r hr => cP_none (fun v hv => by have := hv.2; have := Nat.mod_lt v (show 0 < m by omega); omega) 1024)
      rw [show m + (9 - m) = 9 by omega] at this
      exact this
    have h9 := h M1 hf
    rw [← e1] at h9
    exact h9
  | succ j ih =>
    intro i M1 hi hf hr
    have hh1 : SnR M1 n sm sr := hh.keep (fun b b1 b2 => hf b (by omega))
    have ht1 : NrF M1 a G := NrT.keep ht (hf _ (by omega)) (hf _ (by omega))
    have e3 : ((2 * i + 1 : Nat) : Int) + 2 = ((2 * (i + 1) + 1 : Nat) : Int) := by omega
    have n2 : ∀ r, cR (UN G n sm sr) m (2 * (i + 1) + 1) r = cR (UN G n sm sr) m (2 * i + 1 + 1) r := fun r => cP_n (ev (i + 1) r)
    have hle : ∀ r, cR (UN G n sm sr) m (2 * i + 1) r ≤ 2 * i + 1 := fun r => cP_le _ _
    have hr0 : (2 * i + 1) % m < 9 := by have := Nat.mod_lt (2 * i + 1) (show 0 < m by omega); omega
    refine vc_goS hG 60 [82] (B := bX6_greatestLeft) rfl ?_
    refine And.intro (fun b => by omega) (fun b => ?_)
    refine And.intro (fun b => by omega) (fun b => ?_)
    refine And.intro (fun b => by omega) (fun b => ?_)
    refine And.intro rfl ?_
    refine c_allows hG hh1 ha ht1 rfl (by omega) (fun hu => ?_) (fun hu => ?_)
    · refine And.intro (fun d => absurd d (by decide)) (fun d => ?_)
      refine And.intro rfl (Exists.intro _ (And.intro rfl ?_))
      refine And.intro ⟨by omega, by omega⟩ ?_
      have em : ((2 * i + 1 : Nat) : Int) % (m : Int) = (((2 * i + 1) % m : Nat) : Int) := rfl
      refine And.intro (Or.inl rfl) (Exists.intro ((2 * i + 1) % m) (And.intro em (And.intro (show (2 * i + 1) % m < 9 from hr0) ?_)))
      refine And.intro (by rw [hr _ hr0]; have := hle ((2 * i + 1) % m); omega) ?_
      refine And.intro rfl (Exists.intro ((2 * i + 1) % m) (And.intro em (And.intro (show (2 * i + 1) % m < 9 from hr0) ?_)))
      refine And.intro rfl (Exists.intro _ (And.intro rfl ?_))
      refine And.intro ⟨by omega, by omega⟩ ?_
      refine And.intro (Or.inl rfl) (Exists.intro ((2 * i + 1) % m) (And.intro em (And.intro (show (2 * i + 1) % m < 9 from hr0) ?_)))
      rw [upM_eq, hr _ hr0]
      refine vc_go hG 60 (B := bX6_greatestLeft) rfl ?_
      refine And.intro (by omega) ?_
      have cy : cR (UN G n sm sr) m (2 * i + 1 + 1) ((2 * i + 1) % m) = cR (UN G n sm sr) m (2 * i + 1) ((2 * i + 1) % m) + 1 := cP_y ⟨hu, rfl⟩
      have cn : ∀ r, r ≠ (2 * i + 1) % m → cR (UN G n sm sr) m (2 * i + 1 + 1) r = cR (UN G n sm sr) m (2 * i + 1) r := fun r hne => cP_n (fun z => hne z.2.symm)
      have nx := ih (i + 1) (upM M1 152 ((2 * i + 1) % m) ((cR (UN G n sm sr) m (2 * i + 1) ((2 * i + 1) % m) : Nat) + 1)) (by omega) (fun b hb => by rw [upM_ne hb, hf b hb]) (fun r hr9 => by
        rw [n2]
        by_cases q : r = (2 * i + 1) % m
        · subst q; rw [upM_eq, cy]; omega
        · rw [upM_k q, cn r q]; exact hr r hr9)
      rw [mxD_cong 9 (fun r _ => n2 r), mxD_upd (r0 := (2 * i + 1) % m) (D := cR (UN G n sm sr) m (2 * i + 1)) (by omega) cn 9 hr0, cy] at nx
      rw [show ((max (mxD (cR (UN G n sm sr) m (2 * i + 1)) 9) (cR (UN G n sm sr) m (2 * i + 1) ((2 * i + 1) % m) + 1) : Nat) : Int) = max ((mxD (cR (UN G n sm sr) m (2 * i + 1)) 9 : Nat) : Int) (((cR (UN G n sm sr) m (2 * i + 1) ((2 * i + 1) % m) : Nat) : Int) + 1) by omega, ← e3] at nx
      exact nx
    · refine And.intro (fun d => ?_) (fun d => absurd rfl d)
      refine vc_go hG 60 (B := bX6_greatestLeft) rfl ?_
      refine And.intro (by omega) ?_
      have cn : ∀ r, cR (UN G n sm sr) m (2 * i + 1 + 1) r = cR (UN G n sm sr) m (2 * i + 1) r := fun r => cP_n (fun z => hu z.1)
      have nx := ih (i + 1) M1 (by omega) hf (fun r hr9 => by rw [n2, cn]; exact hr r hr9)
      rw [mxD_cong 9 (fun r _ => (n2 r).trans (cn r)), ← e3] at nx
      exact nx
theorem l_left1 (hG : GOK Γ) (hh : SnR M n sm sr) (ha : NrL (W0 L) a) (ha2 : 152 < a + 1) (ht : NrF M a G) {m : Nat} (hm : 2 ≤ m ∧ m ≤ 9) (h : ∀ M', (∀ b, b ≠ 152 → M' b = M b) → Q (some (VI (mxD (cR (UN G n sm sr) m 1024) m : Nat))) (W0 L) M') : ∀ (j i : Nat) (M1 : MM), i + j = 9 → (∀ b, b ≠ 152 → M1 b = M b) → (∀ r, r < i → M1 152 r = 0) → wp Γ mX6_greatestLeft 2 [some (VR 149), some (VR a), some (VI m), some (VI i)] [] 0 0 (W0 L) M1 Q := by
  intro j
  induction j with
  | zero =>
    intro i M1 hi hf hr
    have e : i = 9 := by omega
    subst e
    refine vc_go hG 60 (B := bX6_greatestLeft) rfl ?_
    refine And.intro (fun b => ?_) (fun b => by omega)
    have z : ∀ r, cR (UN G n sm sr) m (2 * 0 + 1) r = 0 := fun r => cP_n (fun hh => by have := UN_odd hh.1; omega)
    have nx := l_left2 hG hh ha ha2 ht hm h 512 0 M1 rfl hf (fun r h9 => by rw [z]; exact hr r h9)
    have z2 : mxD (cR (UN G n sm sr) m (2 * 0 + 1)) 9 = 0 := Nat.le_zero.mp (mxD_le 9 (fun r _ => by rw [z]; exact Nat.le_refl _))
    rw [z2] at nx
    exact nx
  | succ j ih =>
    intro i M1 hi hf hr
    refine vc_go hG 60 (B := bX6_greatestLeft) rfl ?_
    refine And.intro (fun b => by omega) (fun b => ?_)
    refine And.intro rfl (Exists.intro _ (And.intro rfl ?_))
    refine And.intro rfl (Exists.intro i (And.intro rfl (And.intro (show i < 9 by omega) ?_)))
    refine And.intro (by omega) ?_
    refine ih (i + 1) _ (by omega) (fun b hb => by rw [upM_ne hb, hf b hb]) (fun r h9 => ?_)
    by_cases q : r = i
    · subst q; exact upM_eq
    · rw [upM_k q]; exact hr r (by omega)
theorem c_left (hG : GOK Γ) (hh : SnR M n sm sr) (ha : NrL (W0 L) a) (ha2 : 152 < a + 1) (ht : NrF M a G) {mI : Int} {m : Nat} (em : mI = m) (hm : 2 ≤ m ∧ m ≤ 9) (h : ∀ M', (∀ b, b ≠ 152 → M' b = M b) → Q (some (VI (mxD (cR (UN G n sm sr) m 1024) m : Nat))) (W0 L) M') : wp Γ mX6_greatestLeft 0 [some (VR 149), some (VR a), some (VI mI)] [] 0 0 (W0 L) M Q := by
  subst em
  refine vc_go hG 60 (B := bX6_greatestLeft) rfl ?_
  exact l_left1 hG hh ha ha2 ht hm h 9 0 M rfl (fun b _ => rfl) (fun r hr => by omega)
theorem l_ask (hG : GOK Γ) (hh : SnR M n sm sr) (ha : NrL (W0 L) a) (ha2 : 152 < a + 1) (ht : NrF M a G) (h : ∀ M', (∀ b, b ≠ 152 → M' b = M b) → Q (some (VI (ak (UN G n sm sr) 8).1)) (W0 L) M') : ∀ (j i : Nat) (x : Int) (M1 : MM), i + j = 8 → (∀ b, b ≠ 152 → M1 b = M b) → ((ak (UN G n sm sr) i).2 = x ∨ (i = 0 ∧ x = 513)) → wp Γ mX6_ask 22 [some (VR 149), some (VR a), some (VI (ak (UN G n sm sr) i).1), some (VI x), some (VI ((i + 2 : Nat) : Int))] [] 0 0 (W0 L) M1 Q := by
  intro j
  induction j with
  | zero =>
    intro i x M1 hi hf hx
    have e : i = 8 := by omega
    subst e
    refine vc_go hG 60 (B := bX6_ask) rfl ?_
    exact And.intro (fun b => h M1 hf) (fun b => by omega)
  | succ j ih =>
    intro i x M1 hi hf hx
    have hh1 : SnR M1 n sm sr := hh.keep (fun b b1 b2 => hf b (by omega))
    have ht1 : NrF M1 a G := NrT.keep ht (hf _ (by omega)) (hf _ (by omega))
    have hle : mxD (cR (UN G n sm sr) (i + 2) 1024) (i + 2) ≤ 512 := mxD_le _ (fun r _ => cP_odd (P := fun v => UN G n sm sr v ∧ v % (i + 2) = r) (fun v hv => (UN_odd hv.1).1) 512)
    have ea : ak (UN G n sm sr) (i + 1) = if ((mxD (cR (UN G n sm sr) (i + 2) 1024) (i + 2) : Nat) : Int) < (ak (UN G n sm sr) i).2 then (((i + 2 : Nat) : Int), ((mxD (cR (UN G n sm sr) (i + 2) 1024) (i + 2) : Nat) : Int)) else ak (UN G n sm sr) i := rfl
    have lt_iff : ((mxD (cR (UN G n sm sr) (i + 2) 1024) (i + 2) : Nat) : Int) < x ↔ ((mxD (cR (UN G n sm sr) (i + 2) 1024) (i + 2) : Nat) : Int) < (ak (UN G n sm sr) i).2 := by
      rcases hx with hx | ⟨h1, h2⟩
      · rw [hx]
      · subst h1
        rw [h2]
        show _ ↔ _ < (9999 : Int)
        omega
    generalize hgg : mxD (cR (UN G n sm sr) (i + 2) 1024) (i + 2) = gg at hle ea lt_iff
    refine vc_go hG 60 (B := bX6_ask) rfl ?_
    refine And.intro (fun b => by omega) (fun b => ?_)
    refine And.intro rfl ?_
    refine c_left hG hh1 ha ha2 ht1 rfl ⟨by omega, by omega⟩ (fun M' hf' => ?_)
    rw [hgg]
    have hf2 : ∀ b, b ≠ 152 → M' b = M b := fun b hb => (hf' b hb).trans (hf b hb)
    refine And.intro (fun c => ?_) (fun c => ?_)
    · rw [if_neg (fun z => by have := lt_iff.mpr z; omega)] at ea
      refine And.intro (by omega) ?_
      refine wp_pre [some (VR 149), some (VR a), some (VI (ak (UN G n sm sr) i).1), some (VI x), some (VI ((i + 1 + 2 : Nat) : Int))] _ ?_
      have nx := ih (i + 1) x M' (by omega) hf2 (by
        rcases hx with hx | ⟨h1, h2⟩
        · rw [ea]; exact Or.inl hx
        · omega)
      rw [ea] at nx
      exact nx
    · rw [if_pos (lt_iff.mp c)] at ea
      refine And.intro (by omega) ?_
      refine wp_pre [some (VR 149), some (VR a), some (VI ((i + 2 : Nat) : Int)), some (VI (gg : Int)), some (VI ((i + 1 + 2 : Nat) : Int))] _ ?_
      have nx := ih (i + 1) gg M' (by omega) hf2 (by rw [ea]; exact Or.inl rfl)
      rw [ea] at nx
      exact nx
theorem c_ask (hG : GOK Γ) (hh : SnR M n sm sr) (ha : NrL (W0 L) a) (ha2 : 152 < a + 1) (ht : NrF M a G) (h0 : cP (UN G n sm sr) 1024 ≤ 1 → Q (some (VI (-9))) (W0 L) M) (h : 1 < cP (UN G n sm sr) 1024 → ∀ M', (∀ b, b ≠ 152 → M' b = M b) → Q (some (VI (ak (UN G n sm sr) 8).1)) (W0 L) M') : wp Γ mX6_ask 0 [some (VR 149), some (VR a)] [] 0 0 (W0 L) M Q := by
  refine vc_go hG 60 (B := bX6_ask) rfl ?_
  refine And.intro rfl ?_
  refine c_snMany hG hh ha ht ?_
  refine And.intro (fun b => ?_) (fun b => h0 (by omega))
  exact l_ask hG hh ha ha2 ht (h (by omega)) 8 0 513 M rfl (fun b _ => rfl) (Or.inr ⟨rfl, rfl⟩)
end Seen
