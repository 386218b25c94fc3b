/-! ===== the model: tokens ===== -/
theorem tok_e {T : Nat → Nat} {n b : Nat} (hs : skp T n (n - b) b = n) : tok T n b = (n, n, -1, 0) := by
  unfold tok
  rw [hs, Nat.sub_self]
  show tokE T n n (n, 0) = _
  unfold tokE
  rw [if_pos (Nat.le_refl _)]
theorem tok_d {T : Nat → Nat} {n b st : Nat} {ev : Nat × Nat} (hs : skp T n (n - b) b = st) (h : st < n) (hd : isDg (T st)) (he : dgs T n (n - st) st 0 = ev) : tok T n b = (st, ev.1, if (T st = 48 ∧ 1 < ev.1 - st) ∨ 9999 < ev.2 then -3 else -2, ev.2) ∧ st < ev.1 := by
  have hl : st < ev.1 := by
    rw [← he, show n - st = (n - st - 1) + 1 by omega]
    rw [show dgs T n (n - st - 1 + 1) st 0 = if st < n ∧ isDg (T st) then dgs T n (n - st - 1) (st + 1) (min (0 * 10 + T st - 48) 10000) else (st, 0) from rfl, if_pos ⟨h, hd⟩]
    have := dgs_b T n (n - st - 1) (st + 1) (min (0 * 10 + T st - 48) 10000) (by omega) (by omega)
    omega
  refine ⟨?_, hl⟩
  unfold tok
  rw [hs, he]
  unfold tokE
  rw [if_neg (by omega), if_pos hl]
theorem tok_c {T : Nat → Nat} {n b st : Nat} (hs : skp T n (n - b) b = st) (h : st < n) (hd : ¬ isDg (T st)) : tok T n b = (st, st + 1, (T st : Int), 0) := by
  have he : dgs T n (n - st) st 0 = (st, 0) := by
    rw [show n - st = (n - st - 1) + 1 by omega]
    rw [show dgs T n (n - st - 1 + 1) st 0 = if st < n ∧ isDg (T st) then dgs T n (n - st - 1) (st + 1) (min (0 * 10 + T st - 48) 10000) else (st, 0) from rfl, if_neg (fun z => hd z.2)]
  unfold tok
  rw [hs, he]
  unfold tokE
  rw [if_neg (by omega), if_neg (Nat.lt_irrefl _)]
def tkV (k v : Int) (t : TK) : Prop := (tK t = -1 → k = 0) ∧ (tK t = -2 → k = 2 ∧ v = tN t) ∧ (tK t = -3 → k = 4) ∧ (0 ≤ tK t → v = tK t ∧ k = (if tK t = 59 then 3 else if tK t = 108 ∨ tK t = 119 ∨ tK t = 97 then 1 else 4)) ∧ -3 ≤ tK t
theorem tkV_3 {v : Int} {a b c : Nat} : tkV 4 v (a, b, -3, c) := ⟨fun y => absurd (show (-3 : Int) = -1 from y) (by decide), fun y => absurd (show (-3 : Int) = -2 from y) (by decide), fun _ => rfl, fun y => absurd (show (0 : Int) ≤ -3 from y) (by decide), show (-3 : Int) ≤ -3 by decide⟩
theorem tkV_2 {v : Int} {a b c : Nat} (h : v = c) : tkV 2 v (a, b, -2, c) := ⟨fun y => absurd (show (-2 : Int) = -1 from y) (by decide), fun _ => ⟨rfl, h⟩, fun y => absurd (show (-2 : Int) = -3 from y) (by decide), fun y => absurd (show (0 : Int) ≤ -2 from y) (by decide), show (-3 : Int) ≤ -2 by decide⟩
theorem tkV_1 {v : Int} {a b c : Nat} : tkV 0 v (a, b, -1, c) := ⟨fun _ => rfl, fun y => absurd (show (-1 : Int) = -2 from y) (by decide), fun y => absurd (show (-1 : Int) = -3 from y) (by decide), fun y => absurd (show (0 : Int) ≤ -1 from y) (by decide), show (-3 : Int) ≤ -1 by decide⟩
def mTk (M : MM) (t : TK) : Prop := M 187 3 = tB t ∧ M 187 5 = tS t ∧ tkV (M 187 4) (M 187 6) t
def frT (M M' : MM) : Prop := (∀ a, a ≠ 187 → M' a = M a) ∧ ∀ j, (j < 3 ∨ 6 < j) → M' 187 j = M 187 j
theorem frT_r (M : MM) : frT M M := ⟨fun _ _ => rfl, fun _ _ => rfl⟩
theorem frT.t {M M' M2 : MM} (h1 : frT M M') (h2 : frT M' M2) : frT M M2 := ⟨fun a ha => (h2.1 a ha).trans (h1.1 a ha), fun j hj => (h2.2 j hj).trans (h1.2 j hj)⟩
theorem frT.u {M M' : MM} (h : frT M M') {j : Nat} {x : Int} (hj : 3 ≤ j ∧ j ≤ 6) : frT M (upM M' 187 j x) := ⟨fun a ha => by rw [upM_ne ha]; exact h.1 a ha, fun i hi => by rw [upM_k (by omega)]; exact h.2 i hi⟩
theorem mTx.fr {M M' : MM} {n : Nat} {T : Nat → Nat} (h : mTx M n T) (hf : frT M M') : mTx M' n T := h.keep (hf.2 2 (by decide)) (hf.1 188 (by decide))
section Mod
variable {Γ : GG} {L : Nat} {M : MM} {Q : QT} {n : Nat} {T : Nat → Nat}
theorem m_letterAt (hG : GOK Γ) (hh : mTx M n T) {kI : Int} {k : Nat} (ek : kI = k) (h1 : k < n → Q (some (VI (T k))) (W0 L) M) (h0 : n ≤ k → Q (some (VI (-1))) (W0 L) M) : wp Γ mX10_letterAt 0 [some (VR 187), some (VI kI)] [] 0 0 (W0 L) M Q := by
  subst ek
  obtain ⟨t1, t2, t3⟩ := hh
  refine vc_go hG 60 (B := bX10_letterAt) rfl ?_
  refine And.intro rfl (And.intro (fun y => h0 (by omega)) (fun y => ?_))
  have hk : k < n := by omega
  have e := (t3 k hk).1
  refine And.intro rfl (Exists.intro _ (And.intro rfl ?_))
  refine And.intro (Or.inl rfl) (Exists.intro (k) (And.intro (by omega) (And.intro (show k < 80 by omega) ?_)))
  have h2 := h1 hk
  rw [← e] at h2
  exact h2
theorem l_mskip (hG : GOK Γ) (hh : mTx M n T) (st : Nat) (h : ∀ M' : MM, M' 187 3 = st → frT M M' → wp Γ mX10_advances 26 [some (VR 187)] [] 0 0 (W0 L) M' Q) : ∀ (j b : Nat) (M1 : MM), b + j = n → M1 187 3 = b → frT M M1 → skp T n j b = st → wp Γ mX10_advances 0 [some (VR 187)] [] 0 0 (W0 L) M1 Q := by
  have n80 := hh.2.1
  intro j
  induction j with
  | zero =>
    intro b M1 hb h3 hf hs
    have hs : b = st := hs
    refine vc_goS hG 60 [26] (B := bX10_advances) rfl ?_
    refine And.intro rfl ?_
    refine And.intro rfl ?_
    refine m_letterAt hG (hh.fr hf) h3 (fun z => by omega) (fun z => ?_)
    exact And.intro (fun y => h M1 (by omega) hf) (fun y => absurd y (by decide))
  | succ j ih =>
    intro b M1 hb h3 hf hs
    rw [show skp T n (j + 1) b = if b < n ∧ T b = 32 then skp T n j (b + 1) else b from rfl] at hs
    refine vc_goS hG 60 [26] (B := bX10_advances) rfl ?_
    refine And.intro rfl ?_
    refine And.intro rfl ?_
    refine m_letterAt hG (hh.fr hf) h3 (fun z => ?_) (fun z => by omega)
    refine And.intro (fun y => ?_) (fun y => ?_)
    · rw [if_neg (fun q => by omega)] at hs
      exact h M1 (by omega) hf
    · rw [if_pos ⟨z, by omega⟩] at hs
      refine And.intro rfl ?_
      refine And.intro (by omega) ?_
      refine And.intro rfl ?_
      exact ih (b + 1) _ (by omega) (by rw [upM_eq, h3]; rfl) (hf.u (by decide)) hs
theorem l_mdgs (hG : GOK Γ) (hh : mTx M n T) (c : Int) (ev : Nat × Nat) (h : ∀ (M' : MM) (x : Nat), M' 187 3 = ev.1 → M' 187 6 = x → x ≤ 99999 → min x 10000 = ev.2 → (∀ a, a ≠ 187 → M' a = M a) → (∀ i, i ≠ 3 → i ≠ 6 → M' 187 i = M 187 i) → wp Γ mX10_advances 142 [some (VR 187), some (VI c)] [] 0 0 (W0 L) M' Q) : ∀ (j e v x : Nat) (M1 : MM), e + j = n → M1 187 3 = e → M1 187 6 = x → x ≤ 99999 → min x 10000 = v → (∀ a, a ≠ 187 → M1 a = M a) → (∀ i, i ≠ 3 → i ≠ 6 → M1 187 i = M 187 i) → dgs T n j e v = ev → wp Γ mX10_advances 71 [some (VR 187), some (VI c)] [] 0 0 (W0 L) M1 Q := by
  have n80 := hh.2.1
  intro j
  induction j with
  | zero =>
    intro e v x M1 hb h3 h6 hx hv hf hg hs
    have hs : (e, v) = ev := hs
    subst hs
    refine vc_goS hG 60 [142] (B := bX10_advances) rfl ?_
    refine And.intro rfl ?_
    refine And.intro rfl ?_
    refine m_letterAt hG (hh.keep (hg 2 (by decide) (by decide)) (hf 188 (by decide))) h3 (fun z => by omega) (fun z => ?_)
    refine m_in hG (fun z => by omega) (fun z => ?_)
    exact And.intro (fun y => h M1 x h3 h6 hx hv hf hg) (fun y => absurd rfl y)
  | succ j ih =>
    intro e v x M1 hb h3 h6 hx hv hf hg hs
    rw [show dgs T n (j + 1) e v = if e < n ∧ isDg (T e) then dgs T n j (e + 1) (min (v * 10 + T e - 48) 10000) else (e, v) from rfl] at hs
    have hh1 := hh.keep (hg 2 (by decide) (by decide)) (hf 188 (by decide))
    refine vc_goS hG 60 [142, 129] (B := bX10_advances) rfl ?_
    refine And.intro rfl ?_
    refine And.intro rfl ?_
    refine m_letterAt hG hh1 h3 (fun z => ?_) (fun z => by omega)
    refine m_in hG (fun z2 => ?_) (fun z2 => ?_)
    · rw [if_pos ⟨z, by omega⟩] at hs
      refine And.intro (fun y => absurd y (by decide)) (fun y => ?_)
      have fin : ∀ (y : Int) (x' : Nat), y = x' → x' ≤ 99999 → min x' 10000 = min (v * 10 + T e - 48) 10000 → wp Γ mX10_advances 129 [some (VR 187), some (VI c)] [] 0 0 (W0 L) (upM M1 187 6 y) Q := by
        intro y x' hy hx' hm
        refine vc_go hG 60 (B := bX10_advances) rfl ?_
        refine And.intro rfl ?_
        refine And.intro (by rw [upM_k (by decide)]; omega) ?_
        refine And.intro rfl ?_
        refine ih (e + 1) _ x' _ (by omega) (by rw [upM_eq, upM_k (by decide), h3]; rfl) (by rw [upM_k (by decide), upM_eq]; exact hy) hx' hm (fun a ha => by rw [upM_ne ha, upM_ne ha]; exact hf a ha) (fun i i1 i2 => by rw [upM_k i1, upM_k i2]; exact hg i i1 i2) hs
      refine And.intro rfl ?_
      refine And.intro (fun y2 => ?_) (fun y2 => ?_)
      · refine And.intro rfl ?_
        refine And.intro (by omega) ?_
        refine And.intro rfl ?_
        refine And.intro rfl ?_
        refine m_letterAt hG hh1 h3 (fun z => ?_) (fun z => by omega)
        refine And.intro (by omega) ?_
        refine And.intro (by omega) ?_
        refine And.intro rfl ?_
        exact fin _ (10 * x + T e - 48) (by omega) (by omega) (by omega)
      · refine And.intro rfl ?_
        refine And.intro rfl ?_
        exact fin _ x h6 hx (by omega)
    · rw [if_neg (fun q => by omega)] at hs
      subst hs
      exact And.intro (fun y => h M1 x h3 h6 hx hv hf hg) (fun y => absurd rfl y)
theorem m_advances (hG : GOK Γ) (hh : mTx M n T) {b : Nat} (hb : b ≤ n) (h3 : M 187 3 = b) (h : ∀ M', mTk M' (tok T n b) → frT M M' → Q none (W0 L) M') : wp Γ mX10_advances 0 [some (VR 187)] [] 0 0 (W0 L) M Q := by
  have n80 := hh.2.1
  have sb := skp_b T n (n - b) b (by omega)
  refine l_mskip hG hh (skp T n (n - b) b) (fun M1 a1 f1 => ?_) (n - b) b M (by omega) h3 (frT_r M) rfl
  generalize es : skp T n (n - b) b = st at *
  have f2 : frT M (upM M1 187 5 (M1 187 3)) := f1.u (by decide)
  have p5 : upM M1 187 5 (M1 187 3) 187 5 = st := by rw [upM_eq]; exact a1
  have p3 : upM M1 187 5 (M1 187 3) 187 3 = st := by rw [upM_k (by decide)]; exact a1
  refine vc_go hG 60 (B := bX10_advances) rfl ?_
  refine And.intro rfl ?_
  refine And.intro rfl ?_
  refine And.intro rfl ?_
  refine And.intro rfl ?_
  generalize upM M1 187 5 (M1 187 3) = M2 at f2 p5 p3
  refine m_letterAt hG (hh.fr f2) p3 (fun z => ?_) (fun z => ?_)
  · have t255 := (hh.2.2 st z).2
    refine And.intro (fun y => ?_) (fun y => by omega)
    refine m_in hG (fun z2 => ?_) (fun z2 => ?_)
    · refine And.intro (fun y => absurd y (by decide)) (fun y => ?_)
      refine And.intro rfl ?_
      have hd : isDg (T st) := by omega
      obtain ⟨et, hl⟩ := tok_d es z hd rfl
      have db := dgs_b T n (n - st) st 0 (by omega) (by omega)
      refine l_mdgs (M := upM M2 187 6 0) hG ((hh.fr f2).keep (upM_k (by decide)) (upM_ne (by decide))) _ (dgs T n (n - st) st 0) (fun M3 x b3 b6 bx bm bf bg => ?_) (n - st) st 0 0 _ (by omega) (by rw [upM_k (by decide)]; exact p3) upM_eq (by omega) (by omega) (fun _ _ => rfl) (fun _ _ _ => rfl) rfl
      have f3 : frT M M3 := ⟨fun a ha => by rw [bf a ha, upM_ne ha]; exact f2.1 a ha, fun i hi => by rw [bg i (by omega) (by omega), upM_k (by omega)]; exact f2.2 i hi⟩
      have q5 : M3 187 5 = st := by rw [bg 5 (by decide) (by decide), upM_k (by decide)]; exact p5
      rw [et] at h
      generalize dgs T n (n - st) st 0 = ev at *
      have fin : ∀ k : Int, k = (if (T st = 48 ∧ 1 < ev.1 - st) ∨ 9999 < ev.2 then 4 else 2) → Q none (W0 L) (upM M3 187 4 k) := by
        intro k hk
        refine h _ ⟨by rw [upM_k (by decide)]; exact b3, by rw [upM_k (by decide)]; exact q5, ?_⟩ (f3.u (by decide))
        rw [upM_eq, upM_k (by decide), b6, hk]
        by_cases q : (T st = 48 ∧ 1 < ev.1 - st) ∨ 9999 < ev.2
        · rw [if_pos q, if_pos q]
          exact tkV_3
        · rw [if_neg q, if_neg q]
          exact tkV_2 (by omega)
      refine vc_go hG 60 (B := bX10_advances) rfl ?_
      refine And.intro rfl ?_
      refine And.intro (fun y1 => ?_) (fun y1 => ?_)
      · refine And.intro rfl ?_
        exact fin 4 (by rw [if_pos (Or.inr (by omega))])
      · refine And.intro (fun y2 => ?_) (fun y2 => ?_)
        · refine And.intro rfl ?_
          exact fin 2 (by rw [if_neg (fun q => by omega)])
        · refine And.intro rfl ?_
          refine And.intro rfl ?_
          refine And.intro (by omega) ?_
          refine And.intro (fun y3 => ?_) (fun y3 => ?_)
          · refine And.intro rfl ?_
            exact fin 2 (by rw [if_neg (fun q => by omega)])
          · refine And.intro rfl ?_
            exact fin 4 (by rw [if_pos (Or.inl (by omega))])
    · have hd : ¬ isDg (T st) := by omega
      rw [tok_c es z hd] at h
      refine And.intro (fun y => ?_) (fun y => absurd rfl y)
      refine And.intro rfl ?_
      refine And.intro (by omega) ?_
      refine And.intro rfl ?_
      refine And.intro rfl ?_
      have fin : ∀ k : Int, k = (if (T st : Int) = 59 then 3 else if (T st : Int) = 108 ∨ (T st : Int) = 119 ∨ (T st : Int) = 97 then 1 else 4) → Q none (W0 L) (upM (upM (upM M2 187 3 (M2 187 3 + 1)) 187 6 (T st)) 187 4 k) := by
        intro k hk
        refine h _ ⟨by rw [upM_k (by decide), upM_k (by decide), upM_eq, p3]; rfl, by rw [upM_k (by decide), upM_k (by decide), upM_k (by decide)]; exact p5, ?_⟩ (((f2.u (by decide)).u (by decide)).u (by decide))
        rw [upM_eq, upM_k (by decide), upM_eq]
        refine ⟨fun y => ?_, fun y => ?_, fun y => ?_, fun y => ⟨rfl, hk⟩, ?_⟩
        · have y : (T st : Int) = -1 := y
          omega
        · have y : (T st : Int) = -2 := y
          omega
        · have y : (T st : Int) = -3 := y
          omega
        · show -3 ≤ (T st : Int)
          omega
      refine And.intro (fun y1 => ?_) (fun y1 => ?_)
      · refine And.intro (fun y2 => ?_) (fun y2 => ?_)
        · refine And.intro rfl ?_
          exact fin 1 (by rw [if_neg y1, if_pos (Or.inl y2)])
        · refine And.intro (fun y3 => ?_) (fun y3 => ?_)
          · refine And.intro rfl ?_
            exact fin 1 (by rw [if_neg y1, if_pos (Or.inr (Or.inl y3))])
          · refine And.intro (fun y4 => ?_) (fun y4 => ?_)
            · refine And.intro rfl ?_
              exact fin 4 (by rw [if_neg y1, if_neg (fun q => by omega)])
            · refine And.intro rfl ?_
              exact fin 1 (by rw [if_neg y1, if_pos (Or.inr (Or.inr y4))])
      · refine And.intro rfl ?_
        exact fin 3 (by rw [if_pos y1])
  · have e : st = n := by omega
    subst e
    rw [tok_e es] at h
    refine And.intro (fun y => absurd y (by decide)) (fun y => ?_)
    refine And.intro rfl ?_
    refine h _ ⟨by rw [upM_k (by decide)]; exact p3, by rw [upM_k (by decide)]; exact p5, ?_⟩ (f2.u (by decide))
    rw [upM_eq]
    exact tkV_1
end Mod
