/-! ===== the class's Text: tokens ===== -/
abbrev isDg (c : Nat) : Prop := 48 ≤ c ∧ c ≤ 57
def skp (T : Nat → Nat) (n : Nat) : Nat → Nat → Nat
  | 0, b => b
  | k + 1, b => if b < n ∧ T b = 32 then skp T n k (b + 1) else b
def dgs (T : Nat → Nat) (n : Nat) : Nat → Nat → Nat → Nat × Nat
  | 0, e, v => (e, v)
  | k + 1, e, v => if e < n ∧ isDg (T e) then dgs T n k (e + 1) (min (v * 10 + T e - 48) 10000) else (e, v)
theorem skp_b (T : Nat → Nat) (n : Nat) : ∀ k b, b + k = n → b ≤ skp T n k b ∧ skp T n k b ≤ n ∧ (skp T n k b < n → T (skp T n k b) ≠ 32)
  | 0, b, h => by show b ≤ b ∧ b ≤ n ∧ (b < n → T b ≠ 32); exact ⟨by omega, by omega, fun z => by omega⟩
  | k + 1, b, h => by
    have := skp_b T n k (b + 1) (by omega)
    rw [show skp T n (k + 1) b = if b < n ∧ T b = 32 then skp T n k (b + 1) else b from rfl]
    split
    · exact ⟨by omega, this.2.1, this.2.2⟩
    · rename_i q
      exact ⟨by omega, by omega, fun z e => q ⟨z, e⟩⟩
theorem dgs_b (T : Nat → Nat) (n : Nat) : ∀ k e v, e + k = n → v ≤ 10000 → e ≤ (dgs T n k e v).1 ∧ (dgs T n k e v).1 ≤ n ∧ (dgs T n k e v).2 ≤ 10000 ∧ ((dgs T n k e v).1 = e → (dgs T n k e v).2 = v)
  | 0, e, v, h, hv => by show e ≤ e ∧ e ≤ n ∧ v ≤ 10000 ∧ _; exact ⟨by omega, by omega, hv, fun _ => rfl⟩
  | k + 1, e, v, h, hv => by
    have := dgs_b T n k (e + 1) (min (v * 10 + T e - 48) 10000) (by omega) (by omega)
    rw [show dgs T n (k + 1) e v = if e < n ∧ isDg (T e) then dgs T n k (e + 1) (min (v * 10 + T e - 48) 10000) else (e, v) from rfl]
    split
    · exact ⟨by omega, by omega, this.2.2.1, fun z => by omega⟩
    · exact ⟨Nat.le_refl _, by show e ≤ n; omega, hv, fun _ => rfl⟩
/-- the token behind place b: its first letter's place, the place behind it, its kind, its number -/
def tokE (T : Nat → Nat) (n st : Nat) (ev : Nat × Nat) : Nat × Nat × Int × Nat :=
  if n ≤ st then (st, ev.1, -1, ev.2) else if st < ev.1 then (st, ev.1, if (T st = 48 ∧ 1 < ev.1 - st) ∨ 9999 < ev.2 then -3 else -2, ev.2) else (st, ev.1 + 1, (T st : Int), ev.2)
def tok (T : Nat → Nat) (n b : Nat) : Nat × Nat × Int × Nat := tokE T n (skp T n (n - b) b) (dgs T n (n - skp T n (n - b) b) (skp T n (n - b) b) 0)
def TkR (M : MM) (k : Nat × Nat × Int × Nat) : Prop := M 22 2 = k.1 ∧ M 22 3 = k.2.1 ∧ M 22 4 = k.2.2.1 ∧ M 22 5 = k.2.2.2
theorem tok_b {T : Nat → Nat} {n b : Nat} (hb : b ≤ n) : b ≤ (tok T n b).1 ∧ (tok T n b).1 ≤ (tok T n b).2.1 ∧ (tok T n b).2.1 ≤ n ∧ (tok T n b).2.2.2 ≤ 10000 ∧ ((tok T n b).2.2.1 ≠ -1 → (tok T n b).1 < (tok T n b).2.1) ∧ ((tok T n b).1 = n ↔ (tok T n b).2.2.1 = -1) := by
  have h1 := skp_b T n (n - b) b (by omega)
  have h2 := dgs_b T n (n - skp T n (n - b) b) (skp T n (n - b) b) 0 (by omega) (by omega)
  unfold tok
  generalize skp T n (n - b) b = st at *
  generalize dgs T n (n - st) st 0 = ev at *
  unfold tokE
  by_cases q : n ≤ st
  · rw [if_pos q]
    exact ⟨h1.1, h2.1, h2.2.1, h2.2.2.1, fun z => absurd rfl z, by show st = n ↔ (-1 : Int) = -1; omega⟩
  · rw [if_neg q]
    by_cases q2 : st < ev.1
    · rw [if_pos q2]
      refine ⟨h1.1, h2.1, h2.2.1, h2.2.2.1, fun z => q2, ?_⟩
      show st = n ↔ (if (T st = 48 ∧ 1 < ev.1 - st) ∨ 9999 < ev.2 then (-3 : Int) else -2) = -1
      split <;> omega
    · rw [if_neg q2]
      refine ⟨h1.1, by show st ≤ ev.1 + 1; omega, by show ev.1 + 1 ≤ n; omega, h2.2.2.1, fun z => by show st < ev.1 + 1; omega, ?_⟩
      show st = n ↔ (T st : Int) = (-1 : Int)
      omega
section Text
variable {Γ : GG} {L : Nat} {M : MM} {Q : QT} {n : Nat} {T : Nat → Nat}
theorem c_isDigit (hG : GOK Γ) {w : Wd} {cI : Int} {c : Nat} (ec : cI = c) (h1 : isDg c → Q (some (VI 1)) w M) (h0 : ¬ isDg c → Q (some (VI 0)) w M) : wp Γ mX7_isDigit 0 [some (VI cI)] [] 0 0 w M Q := by
  subst ec
  refine vc_go hG 60 (B := bX7_isDigit) rfl ?_
  refine And.intro (fun a => And.intro (Or.inl rfl) (h0 (by omega))) (fun a => ?_)
  exact And.intro (fun b => And.intro (Or.inl rfl) (h0 (by omega))) (fun b => And.intro (Or.inr rfl) (h1 (by omega)))
theorem l_skip (hG : GOK Γ) (hh : TxR M n T) (st : Nat) (h : ∀ M' : MM, M' 22 2 = st → (∀ a, a ≠ 22 → M' a = M a) → M' 22 1 = M 22 1 → wp Γ mX7_step 46 [some (VR 22)] [] 0 0 (W0 L) M' Q) : ∀ (j b : Nat) (M1 : MM), b + j = n → M1 22 2 = b → (∀ a, a ≠ 22 → M1 a = M a) → M1 22 1 = M 22 1 → skp T n j b = st → wp Γ mX7_step 8 [some (VR 22)] [] 0 0 (W0 L) M1 Q := by
  obtain ⟨s1, s2, s3⟩ := hh
  intro j
  induction j with
  | zero =>
    intro b M1 hj h2 hf hl hs
    have e : b = st := hs
    subst e
    refine vc_goS hG 60 [46] (B := bX7_step) rfl ?_
    refine And.intro rfl (And.intro rfl (And.intro (fun a => h M1 h2 hf hl) (fun a => by omega)))
  | succ j ih =>
    intro b M1 hj h2 hf hl hs
    have eb : M1 23 b = T b := by rw [hf 23 (by decide)]; exact (s3 b (by omega)).1
    refine vc_goS hG 60 [46] (B := bX7_step) rfl ?_
    refine And.intro rfl (And.intro rfl (And.intro (fun a => by omega) (fun a => ?_)))
    refine And.intro rfl (Exists.intro _ (And.intro rfl (And.intro rfl ?_)))
    refine And.intro (Or.inl rfl) (Exists.intro b (And.intro h2 (And.intro (show b < 80 by omega) ?_)))
    rw [show skp T n (j + 1) b = if b < n ∧ T b = 32 then skp T n j (b + 1) else b from rfl] at hs
    refine And.intro (fun c => ?_) (fun c => ?_)
    · rw [if_neg (fun z => by omega)] at hs
      subst hs
      exact h M1 h2 hf hl
    · rw [if_pos ⟨by omega, by omega⟩] at hs
      refine And.intro rfl (And.intro (by omega) (And.intro rfl ?_))
      refine ih (b + 1) _ (by omega) (by rw [upM_eq, h2]; omega) (fun a ha => by rw [upM_ne ha]; exact hf a ha) (by rw [upM_k (by decide)]; exact hl) hs
theorem l_digs (hG : GOK Γ) (hh : TxR M n T) (ev : Nat × Nat) (h : ∀ M' : MM, M' 22 3 = ev.1 → M' 22 5 = ev.2 → (∀ a, a ≠ 22 → M' a = M a) → M' 22 1 = M 22 1 → M' 22 2 = M 22 2 → wp Γ mX7_step 128 [some (VR 22)] [] 0 0 (W0 L) M' Q) : ∀ (j e v : Nat) (M1 : MM), e + j = n → v ≤ 10000 → M1 22 3 = e → M1 22 5 = v → (∀ a, a ≠ 22 → M1 a = M a) → M1 22 1 = M 22 1 → M1 22 2 = M 22 2 → dgs T n j e v = ev → wp Γ mX7_step 59 [some (VR 22)] [] 0 0 (W0 L) M1 Q := by
  obtain ⟨s1, s2, s3⟩ := hh
  intro j
  induction j with
  | zero =>
    intro e v M1 hj hv h3 h5 hf hl h2 hs
    have e9 : (e, v) = ev := hs
    subst e9
    refine vc_goS hG 60 [128] (B := bX7_step) rfl ?_
    refine And.intro rfl (And.intro rfl (And.intro (fun a => h M1 h3 h5 hf hl h2) (fun a => by omega)))
  | succ j ih =>
    intro e v M1 hj hv h3 h5 hf hl h2 hs
    have eb : M1 23 e = T e := by rw [hf 23 (by decide)]; exact (s3 e (by omega)).1
    have tb := (s3 e (by omega)).2
    refine vc_goS hG 60 [128] (B := bX7_step) rfl ?_
    refine And.intro rfl (And.intro rfl (And.intro (fun a => by omega) (fun a => ?_)))
    refine And.intro rfl (Exists.intro _ (And.intro rfl (And.intro rfl ?_)))
    refine And.intro (Or.inl rfl) (Exists.intro e (And.intro h3 (And.intro (show e < 80 by omega) ?_)))
    rw [show dgs T n (j + 1) e v = if e < n ∧ isDg (T e) then dgs T n j (e + 1) (min (v * 10 + T e - 48) 10000) else (e, v) from rfl] at hs
    refine c_isDigit hG eb (fun hd => ?_) (fun hd => ?_)
    · rw [if_pos ⟨by omega, hd⟩] at hs
      refine And.intro (fun c => absurd c (by decide)) (fun c => ?_)
      refine And.intro rfl (And.intro (by omega) ?_)
      refine And.intro rfl (Exists.intro _ (And.intro rfl (And.intro rfl ?_)))
      refine And.intro (Or.inl rfl) (Exists.intro e (And.intro h3 (And.intro (show e < 80 by omega) ?_)))
      refine And.intro (by omega) (And.intro (by omega) (And.intro rfl ?_))
      refine And.intro rfl (And.intro (by rw [upM_k (by decide)]; omega) (And.intro rfl ?_))
      refine ih (e + 1) (min (v * 10 + T e - 48) 10000) _ (by omega) (by omega) (by rw [upM_eq, upM_k (by decide), h3]; omega) (by rw [upM_k (by decide), upM_eq, h5, eb]; omega) (fun a ha => by rw [upM_ne ha, upM_ne ha]; exact hf a ha) (by rw [upM_k (by decide), upM_k (by decide)]; exact hl) (by rw [upM_k (by decide), upM_k (by decide)]; exact h2) hs
    · rw [if_neg (fun z => hd z.2)] at hs
      subst hs
      refine And.intro (fun c => h M1 h3 h5 hf hl h2) (fun c => absurd rfl c)
theorem c_step (hG : GOK Γ) (hh : TxR M n T) {b : Nat} (hb : b ≤ n) (h3 : M 22 3 = b) (h : ∀ M', TxR M' n T → TkR M' (tok T n b) → (∀ a, a ≠ 22 → M' a = M a) → Q none (W0 L) M') : wp Γ mX7_step 0 [some (VR 22)] [] 0 0 (W0 L) M Q := by
  have b1 := skp_b T n (n - b) b (by omega)
  have b2 := dgs_b T n (n - skp T n (n - b) b) (skp T n (n - b) b) 0 (by omega) (by omega)
  unfold tok at h
  refine vc_go hG 60 (B := bX7_step) rfl ?_
  refine And.intro rfl (And.intro rfl ?_)
  have hh1 : TxR (upM M 22 2 (M 22 3)) n T := hh.keep (upM_k (by decide)) (upM_ne (by decide))
  refine l_skip hG hh1 (skp T n (n - b) b) (fun M1 a2 af a1 => ?_) (n - b) b _ (by omega) (by rw [upM_eq]; exact h3) (fun a ha => rfl) rfl rfl
  generalize skp T n (n - b) b = st at *
  refine vc_go hG 60 (B := bX7_step) rfl ?_
  refine And.intro rfl (And.intro rfl (And.intro rfl ?_))
  have hh2 : TxR (upM (upM M1 22 3 (M1 22 2)) 22 5 0) n T := hh1.keep (by rw [upM_k (by decide), upM_k (by decide)]; exact a1) (by rw [upM_ne (by decide), upM_ne (by decide)]; exact af 23 (by decide))
  refine l_digs hG hh2 (dgs T n (n - st) st 0) (fun M2 c3 c5 cf c1 c2 => ?_) (n - st) st 0 _ (by omega) (by omega) (by rw [upM_k (by decide), upM_eq]; exact a2) upM_eq (fun a ha => rfl) rfl rfl rfl
  generalize dgs T n (n - st) st 0 = ev at *
  have hh3 : TxR M2 n T := hh2.keep c1 (cf 23 (by decide))
  have f2 : ∀ a, a ≠ 22 → M2 a = M a := fun a ha => by rw [cf a ha, upM_ne ha, upM_ne ha, af a ha, upM_ne ha]
  have s2 : M2 22 2 = st := by rw [c2, upM_k (by decide), upM_k (by decide)]; exact a2
  obtain ⟨t1, t2, t3⟩ := id hh3
  unfold tokE at h
  refine vc_goS hG 60 [191] (B := bX7_step) rfl ?_
  refine And.intro rfl (And.intro rfl (And.intro (fun q => ?_) (fun q => ?_)))
  · have ns : ¬ n ≤ st := by omega
    rw [if_neg ns] at h
    have et : M2 23 st = T st := (t3 st (by omega)).1
    refine And.intro rfl (And.intro rfl (And.intro (fun q2 => ?_) (fun q2 => ?_)))
    · have e1 : ev.1 = st := by omega
      rw [if_neg (by omega)] at h
      refine And.intro rfl (Exists.intro _ (And.intro rfl (And.intro rfl ?_)))
      refine And.intro (Or.inl rfl) (Exists.intro st (And.intro s2 (And.intro (show st < 80 by omega) ?_)))
      refine And.intro rfl ?_
      refine And.intro rfl (And.intro (by rw [upM_k (by decide)]; omega) (And.intro rfl ?_))
      refine h _ (hh3.keep (by rw [upM_k (by decide), upM_k (by decide)]) (by rw [upM_ne (by decide), upM_ne (by decide)])) ⟨?_, ?_, ?_, ?_⟩ (fun a ha => by rw [upM_ne ha, upM_ne ha]; exact f2 a ha)
      · rw [upM_k (by decide), upM_k (by decide)]; exact s2
      · rw [upM_eq, upM_k (by decide), c3]; rfl
      · rw [upM_k (by decide), upM_eq]; exact et
      · rw [upM_k (by decide), upM_k (by decide)]; exact c5
    · rw [if_pos (by omega)] at h
      have fin : ∀ x : Int, x = (if (T st = 48 ∧ 1 < ev.1 - st) ∨ 9999 < ev.2 then -3 else -2) → Q none (W0 L) (upM M2 22 4 x) := by
        intro x hx
        refine h _ (hh3.keep (by rw [upM_k (by decide)]) (by rw [upM_ne (by decide)])) ⟨?_, ?_, ?_, ?_⟩ (fun a ha => by rw [upM_ne ha]; exact f2 a ha)
        · rw [upM_k (by decide)]; exact s2
        · rw [upM_k (by decide)]; exact c3
        · rw [upM_eq]; exact hx
        · rw [upM_k (by decide)]; exact c5
      refine And.intro rfl (Exists.intro _ (And.intro rfl (And.intro rfl ?_)))
      refine And.intro (Or.inl rfl) (Exists.intro st (And.intro s2 (And.intro (show st < 80 by omega) ?_)))
      have join : ∀ (z : Int), (z = 0 ∨ z = 1) → (z = 1 ↔ (T st = 48 ∧ 1 < ev.1 - st)) → wp Γ mX7_step 191 [some (VR 22), some (VI z)] [] 0 0 (W0 L) M2 Q := by
        intro z hz hzz
        refine vc_go hG 60 (B := bX7_step) rfl ?_
        refine And.intro (fun y => ?_) (fun y => ?_)
        · refine And.intro rfl (fin _ ?_)
          rw [if_pos (Or.inl (hzz.mp (by omega)))]
        · refine And.intro rfl (And.intro (fun y2 => ?_) (fun y2 => ?_))
          · refine And.intro rfl (fin _ ?_)
            rw [if_neg (fun o => o.elim (fun o => by have := hzz.mpr o; omega) (fun o => by omega))]
          · refine And.intro rfl (fin _ ?_)
            rw [if_pos (Or.inr (by omega))]
      refine And.intro (fun y => ?_) (fun y => ?_)
      · exact join 0 (Or.inl rfl) ⟨fun o => by omega, fun o => by omega⟩
      · refine And.intro rfl (And.intro rfl (And.intro (by omega) (And.intro (fun y2 => ?_) (fun y2 => ?_))))
        · exact join 0 (Or.inl rfl) ⟨fun o => by omega, fun o => by omega⟩
        · exact join 1 (Or.inr rfl) ⟨fun o => ⟨by omega, by omega⟩, fun o => rfl⟩
  · rw [if_pos (by omega)] at h
    refine And.intro rfl ?_
    refine h _ (hh3.keep (by rw [upM_k (by decide)]) (by rw [upM_ne (by decide)])) ⟨?_, ?_, ?_, ?_⟩ (fun a ha => by rw [upM_ne ha]; exact f2 a ha)
    · rw [upM_k (by decide)]; exact s2
    · rw [upM_k (by decide)]; exact c3
    · rw [upM_eq]
    · rw [upM_k (by decide)]; exact c5
end Text
