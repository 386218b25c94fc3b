/-! ===== the class's Near: TWO, whole ===== -/
def cnK (G : GT) (c b : Nat) (e : Nat) : Prop := cnA G c 10 e ∨ ∃ k, k < b ∧ qD G k < qL G ∧ cnW G c (qV G k) 10 e
def cnB (G : GT) (v m : Nat) (e : Nat) : Prop := ∃ d, d < m ∧ v * 2 ^ d ≤ 1023 ∧ cnK G (v * 2 ^ d) (qn G + 1) e
/-- neither there nor near -/
def isFar (G : GT) (v : Nat) : Prop := ¬ isTh G v ∧ ∀ p q s f, XG G (qn G + 1) p q s f → mkV G p q s f ≠ v
def isTwo (G : GT) (v : Nat) (r : Int) : Prop := isLst (fun e => isFar G v ∧ cnB G v 10 e) r
theorem cnW_us {G : GT} {c v k e : Nat} (h : cnW G c v k e) : isUs G e := by
  rcases h with h | h
  · exact h.1
  · exact h.1
theorem cnK_us {G : GT} {c b e : Nat} (h : cnK G c b e) : isUs G e := by
  rcases h with h | ⟨k, -, -, h⟩
  · exact h.1
  · exact cnW_us h
section Near
variable {Γ : GG} {w : Wd} {M : MM} {Q : QT} {a g : Nat} {G : GT}
theorem l_bridgeIn (hG : GOK Γ) (ha : NrL w a) (hg : GrL w g) (ht : NrF M a G) (hr : GrR M g G) (hw : WFG G) {v d : Nat} (hv : 1 ≤ v ∧ v ≤ 1023) (hd : d ≤ 9) (hc : v * 2 ^ d ≤ 1023)
    (hk : ∀ r, isMin (cnB G v (d + 1)) r → wp Γ mX4_bridge 19 [some (VR a), some (VR g), some (VI v), some (VI r), some (VI ((d + 1 : Nat) : Int))] [] 0 0 w M Q) :
    ∀ (j k : Nat) (r : Int), k + j = qn G + 1 → isMin (fun e => cnB G v d e ∨ cnK G (v * 2 ^ d) k e) r → wp Γ mX4_bridge 60 [some (VR a), some (VR g), some (VI v), some (VI r), some (VI d), some (VI ((v * 2 ^ d : Nat) : Int)), some (VI k)] [] 0 0 w M Q := by
  have e1 := hr.1
  have e4 := hr.2.2.1
  have hn := hw.1
  have hc1 : 1 ≤ v * 2 ^ d := Nat.mul_pos (by omega) (Nat.two_pow_pos d)
  intro j
  induction j with
  | zero =>
    intro k r hk9 hm
    have e : k = qn G + 1 := by omega
    subst e
    refine vc_go hG 60 (B := bX4_bridge) rfl ?_
    refine And.intro hg.k ?_
    refine And.intro (fun b => ?_) (fun b => by omega)
    refine And.intro (by omega) ?_
    refine wp_pre [some (VR a), some (VR g), some (VI v), some (VI r), some (VI ((d + 1 : Nat) : Int))] _ ?_
    refine hk r (isMin_c hm (fun e => ?_))
    unfold cnB
    constructor
    · rintro (⟨d', h1, h2, h3⟩ | h)
      · exact ⟨d', by omega, h2, h3⟩
      · exact ⟨d, by omega, hc, h⟩
    · rintro ⟨d', h1, h2, h3⟩
      by_cases q : d' = d
      · subst q; exact Or.inr h3
      · exact Or.inl ⟨d', by omega, h2, h3⟩
  | succ j ih =>
    intro k r hk9 hm
    have vk := WFG_V hw k (by omega)
    have step : ∀ r', isMin (fun e => cnB G v d e ∨ cnK G (v * 2 ^ d) (k + 1) e) r' → wp Γ mX4_bridge 60 [some (VR a), some (VR g), some (VI v), some (VI r'), some (VI d), some (VI ((v * 2 ^ d : Nat) : Int)), some (VI ((k + 1 : Nat) : Int))] [] 0 0 w M Q := fun r' h9 => ih (k + 1) r' (by omega) h9
    generalize hcc : v * 2 ^ d = c at hc hc1 hm step
    refine vc_go hG 60 (B := bX4_bridge) rfl ?_
    refine And.intro hg.k ?_
    refine And.intro (fun b => by omega) (fun b => ?_)
    refine And.intro hg.k ?_
    refine c_depth hG hg hr hw rfl (by omega) ?_
    refine And.intro hg.k ?_
    refine And.intro (fun b2 => ?_) (fun b2 => ?_)
    · refine And.intro (by omega) ?_
      refine step r (isMin_c hm (fun e => ?_))
      unfold cnK
      constructor
      · rintro (h | h | ⟨k', h1, h2, h3⟩)
        · exact Or.inl h
        · exact Or.inr (Or.inl h)
        · exact Or.inr (Or.inr ⟨k', by omega, h2, h3⟩)
      · rintro (h | h | ⟨k', h1, h2, h3⟩)
        · exact Or.inl h
        · exact Or.inr (Or.inl h)
        · by_cases q : k' = k
          · subst q; omega
          · exact Or.inr (Or.inr ⟨k', by omega, h2, h3⟩)
    · refine And.intro hg.k ?_
      refine c_value hG hg hr hw rfl (by omega) ?_
      refine And.intro hg.k ?_
      refine And.intro ha.k ?_
      refine c_bridgeWith hG ha ht hw rfl rfl e4 ⟨hc1, hc⟩ vk.2.1 (fun x hx => ?_)
      refine And.intro (by omega) ?_
      refine step _ (isMin_c (isMin_or hm hx) (fun e => ?_))
      unfold cnK
      constructor
      · rintro ((h | h | ⟨k', h1, h2, h3⟩) | h)
        · exact Or.inl h
        · exact Or.inr (Or.inl h)
        · exact Or.inr (Or.inr ⟨k', by omega, h2, h3⟩)
        · exact Or.inr (Or.inr ⟨k, by omega, by omega, h⟩)
      · rintro (h | h | ⟨k', h1, h2, h3⟩)
        · exact Or.inl (Or.inl h)
        · exact Or.inl (Or.inr (Or.inl h))
        · by_cases q : k' = k
          · subst q; exact Or.inr h3
          · exact Or.inl (Or.inr (Or.inr ⟨k', by omega, h2, h3⟩))
theorem l_bridge (hG : GOK Γ) (ha : NrL w a) (hg : GrL w g) (ht : NrF M a G) (hr : GrR M g G) (hw : WFG G) {v : Nat} (hv : 1 ≤ v ∧ v ≤ 1023) (h : ∀ r, isMin (cnB G v 10) r → Q (some (VI (if r = 1024 then -9 else r))) w M) : ∀ (j d : Nat) (r : Int), d + j = 10 → isMin (cnB G v d) r → wp Γ mX4_bridge 19 [some (VR a), some (VR g), some (VI v), some (VI r), some (VI d)] [] 0 0 w M Q := by
  have e4 := hr.2.2.1
  have out : ∀ (d : Nat) (r : Int), d ≤ 10 → (∀ d', d ≤ d' → d' < 10 → ¬ v * 2 ^ d' ≤ 1023) → isMin (cnB G v d) r → Q (some (VI (if r = 1024 then -9 else r))) w M := by
    intro d r hd hn hm
    refine h r (isMin_c hm (fun e => ?_))
    unfold cnB
    constructor
    · rintro ⟨d', h1, h2, h3⟩; exact ⟨d', by omega, h2, h3⟩
    · rintro ⟨d', h1, h2, h3⟩
      by_cases q : d' < d
      · exact ⟨d', q, h2, h3⟩
      · exact absurd h2 (hn d' (by omega) h1)
  intro j
  induction j with
  | zero =>
    intro d r hd hm
    have e : d = 10 := by omega
    subst e
    have o := out 10 r (Nat.le_refl _) (fun d' h1 h2 => by omega) hm
    refine vc_go hG 60 (B := bX4_bridge) rfl ?_
    refine And.intro (fun b => ?_) (fun b => by omega)
    refine And.intro (fun c => ?_) (fun c => ?_)
    · rw [if_neg c] at o; exact o
    · rw [if_pos c] at o; exact o
  | succ j ih =>
    intro d r hd hm
    have hp := pw9 (s := d) (by omega)
    have hx : v * 2 ^ d ≤ 1023 * 512 := Nat.mul_le_mul hv.2 hp.2
    have e1 := shN v d
    refine vc_go hG 60 (B := bX4_bridge) rfl ?_
    refine And.intro (fun b => by omega) (fun b => ?_)
    refine And.intro ⟨by omega, by omega, by omega, by rw [e1]; omega⟩ ?_
    rw [e1]
    refine And.intro (fun c => ?_) (fun c => ?_)
    · have o := out d r (by omega) (fun d' h1 h2 => by
        have : v * 2 ^ d ≤ v * 2 ^ d' := Nat.mul_le_mul_left v (Nat.pow_le_pow_right (by decide) h1)
        omega) hm
      refine And.intro (fun c => ?_) (fun c => ?_)
      · rw [if_neg c] at o; exact o
      · rw [if_pos c] at o; exact o
    · refine And.intro ⟨by omega, by omega, by omega, by rw [e1]; omega⟩ ?_
      rw [e1]
      refine And.intro hg.k ?_
      refine And.intro ha.k ?_
      have hc1 : 1 ≤ v * 2 ^ d := Nat.mul_pos (by omega) (Nat.two_pow_pos d)
      refine c_bridgeAlone hG ha ht hw rfl e4 ⟨hc1, by omega⟩ (fun x hx => ?_)
      refine l_bridgeIn hG ha hg ht hr hw hv (by omega) (by omega) (fun r' h9 => ih (d + 1) r' (by omega) h9) (qn G + 1) 0 _ (by omega) (isMin_c (isMin_or hm hx) (fun e => ?_))
      unfold cnK
      constructor
      · rintro (h | h)
        · exact Or.inl h
        · exact Or.inr (Or.inl h)
      · rintro (h | h | ⟨k', h1, h2, h3⟩)
        · exact Or.inl h
        · exact Or.inr h
        · omega
theorem c_bridge (hG : GOK Γ) (ha : NrL w a) (hg : GrL w g) (ht : NrF M a G) (hr : GrR M g G) (hw : WFG G) {vI : Int} {v : Nat} (ev : vI = v) (hv : v % 2 = 1 ∧ v ≤ 1023) (h : ∀ r, isTwo G v r → Q (some (VI r)) w M) : wp Γ mX4_bridge 0 [some (VR a), some (VR g), some (VI vI)] [] 0 0 w M Q := by
  subst ev
  obtain ⟨i, hi⟩ : ∃ i : Nat, v = 2 * i + 1 := ⟨v / 2, by omega⟩
  subst hi
  have hi : i < 512 := by omega
  refine vc_go hG 60 (B := bX4_bridge) rfl ?_
  refine And.intro ha.k ?_
  refine c_way hG ha ht hi rfl ?_
  rcases ht.cases hi with ⟨c1, c2⟩ | ⟨c1, c2, c5, c3⟩ | ⟨c1, p, q, s, f, c2, c3, c4⟩
  · refine And.intro (fun b => by rw [c2] at b; omega) (fun b => h (-9) (Or.inl ⟨rfl, fun e he => he.1.1 c1⟩))
  · refine And.intro (fun b => ?_) (fun b => absurd c3 b)
    refine l_bridge hG ha hg ht hr hw ⟨by omega, by omega⟩ (fun r hm => h _ ?_) 10 0 1024 rfl (Or.inl ⟨rfl, fun e he => ?_⟩)
    · rcases hm with ⟨h1, h2⟩ | ⟨e, h1, h0, h2, h3⟩
      · rw [if_pos h1]
        exact Or.inl ⟨rfl, fun e he => h2 e he.2⟩
      · rw [if_neg (by omega)]
        exact Or.inr ⟨e, h1, ⟨⟨c1, c5⟩, h2⟩, fun e' he' hh => h3 e' he' hh.2⟩
    · obtain ⟨d, h1, -⟩ := he
      omega
  · refine And.intro (fun b => by rw [c3] at b; omega) (fun b => h (-9) (Or.inl ⟨rfl, fun e he => he.1.2 p q s f c2.1 c2.2.1⟩))
end Near
