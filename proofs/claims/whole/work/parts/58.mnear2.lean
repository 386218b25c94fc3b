/-! ===== the model: near, by ===== -/
theorem cms_mir {p s q f : Nat} (hf : f ≤ 3) : cms q s p ((f + 2) % 4) = cms p s q f := by
  unfold cms
  have c : f = 0 ∨ f = 1 ∨ f = 2 ∨ f = 3 := by omega
  rcases c with c | c | c | c
  · subst c
    rw [if_neg (by decide), if_neg (by decide), if_pos (by decide), if_pos rfl]; omega
  · subst c
    rw [if_neg (by decide), if_neg (by decide), if_neg (by decide), if_neg (by decide), if_pos rfl]; omega
  · subst c
    rw [if_pos (by decide), if_neg (by decide), if_neg (by decide), if_pos rfl]; omega
  · subst c
    rw [if_neg (by decide), if_pos (by decide), if_neg (by decide), if_neg (by decide), if_neg (by decide)]; omega
theorem XM_mir {V D : Nat → Nat} {lim m p q s f : Nat} (h : XM V D lim m p q s f) : XM V D lim m q p s ((f + 2) % 4) ∧ mkM V q p s ((f + 2) % 4) = mkM V p q s f := by
  obtain ⟨h1, h2, h3, h4, h5⟩ := h
  have e := cms_mir (p := V p) (s := s) (q := V q) h4
  refine ⟨⟨h2, h1, h3, by omega, ?_⟩, ?_⟩
  · unfold mayV at h5 ⊢
    rw [e]
    exact ⟨h5.1, h5.2.1, by omega⟩
  · show odp (cms (V q) s (V p) ((f + 2) % 4)) = odp (cms (V p) s (V q) f)
    rw [e]
/-- the first of all has the smaller one first -/
theorem XM_min {V D : Nat → Nat} {lim m p q s f : Nat} (hm : m ≤ 14) (h : XM V D lim m p q s f) (hmin : ∀ p' q' s' f', XM V D lim m p' q' s' f' → mkM V p' q' s' f' = mkM V p q s f → mcd p q s f ≤ mcd p' q' s' f') : p ≤ q := by
  by_cases c : p ≤ q
  · exact c
  · exfalso
    have x := XM_mir h
    have y := hmin _ _ _ _ x.1 x.2
    obtain ⟨h1, h2, h3, h4, -⟩ := h
    have z : (f + 2) % 4 ≤ 3 := by omega
    generalize (f + 2) % 4 = g at *
    unfold mcd at y
    omega
theorem cdw_mcd {m p q s f p' q' s' f' : Nat} (hm : m ≤ 14) (h1 : q < m ∧ s ≤ 9 ∧ f ≤ 3) (h2 : q' < m ∧ s' ≤ 9 ∧ f' ≤ 3) (h : mcd p q s f ≤ mcd p' q' s' f') : cdw p q s f ≤ cdw p' q' s' f' := by
  unfold mcd at h
  unfold cdw
  rcases Nat.lt_trichotomy p p' with c | c | c
  · omega
  · subst c
    rcases Nat.lt_trichotomy q q' with c | c | c
    · omega
    · subst c; omega
    · omega
  · omega
/-- what the row of first adders holds -/
def NF (M : MM) (G : GT) : Prop := ∀ v, v < 1024 → (isTh G v ∧ M 199 v = 0) ∨ (¬ isTh G v ∧ (∀ p q s f, XG G (qn G + 1) p q s f → mkV G p q s f ≠ v) ∧ M 199 v = 0) ∨ (¬ isTh G v ∧ ∃ p q s f, byW G v p q s f ∧ M 199 v = ((mcd p q s f + 1 : Nat) : Int))
theorem XG_XM {G : GT} {p q s f : Nat} (h : XG G (qn G + 1) p q s f) : XM (qV G) (qD G) (qL G) (qn G + 1) p q s f := by
  obtain ⟨h1, h2, h3, h4, h5⟩ := h
  exact ⟨by omega, h2, h3, h4, h5⟩
theorem NF_of {M : MM} {G : GT} (hw : WFG G) (h : FC M (qV G) (qD G) (qL G) (qn G + 1) (qn G + 1)) : NF M G := by
  have n12 := hw.1
  intro v hv
  rcases h v hv with ⟨a1, a2⟩ | ⟨a1, p, q, s, f, a2, a3, a4, a5⟩
  · by_cases t : isTh G v
    · exact Or.inl ⟨t, a1⟩
    · refine Or.inr (Or.inl ⟨t, fun p q s f x => ?_, a1⟩)
      rcases a2 with a2 | a2
      · exact absurd a2 t
      · exact a2 p q s f (XG_XM x)
  · refine Or.inr (Or.inr ⟨fun ⟨k, k1, k2⟩ => a1 k k1 k2, p, q, s, f, ⟨?_, a3, fun p' q' s' f' x1 x2 => ?_⟩, a4⟩)
    · obtain ⟨b1, b2, b3, b4, b5⟩ := id a2
      exact ⟨XM_min (show qn G + 1 ≤ 14 by omega) a2 (fun p' q' s' f' x1 x2 => a5 p' q' s' f' x1 (x2.trans a3)), b2, b3, b4, b5⟩
    · have x3 := XG_XM x1
      exact cdw_mcd (show qn G + 1 ≤ 14 by omega) ⟨a2.2.1, a2.2.2.1, a2.2.2.2.1⟩ ⟨x3.2.1, x3.2.2.1, x3.2.2.2.1⟩ (a5 p' q' s' f' x3 x2)
theorem byW_odd {G : GT} {v p q s f : Nat} (h : byW G v p q s f) : v % 2 = 1 ∧ v ≤ 1023 := by
  obtain ⟨⟨-, -, -, -, m1, m2, -⟩, h2, -⟩ := h
  have b1 := odp_le (cms (qV G p) s (qV G q) f)
  have b3 := odp_odd (n := cms (qV G p) s (qV G q) f) (by omega) (by omega)
  have h2 : odp (cms (qV G p) s (qV G q) f) = v := h2
  omega
theorem NF.keep {M M' : MM} {G : GT} (h : NF M G) (hf : M' 199 = M 199) : NF M' G := by
  unfold NF
  rw [hf]
  exact h
theorem NF.nr {M : MM} {G : GT} (h : NF M G) {v : Nat} (hv : v < 1024) : (isNr G v ∧ 0 < M 199 v ∧ ∃ p q s f, byW G v p q s f ∧ M 199 v = ((mcd p q s f + 1 : Nat) : Int)) ∨ (¬ isNr G v ∧ M 199 v = 0) := by
  rcases h v hv with ⟨a1, a2⟩ | ⟨a1, a2, a3⟩ | ⟨a1, p, q, s, f, a2, a3⟩
  · exact Or.inr ⟨fun z => z.2.1 a1, a2⟩
  · refine Or.inr ⟨fun z => ?_, a3⟩
    obtain ⟨p, q, s, f, z⟩ := z.2.2
    exact a2 p q s f z.1 z.2.1
  · exact Or.inl ⟨⟨byW_odd a2, a1, p, q, s, f, a2⟩, by omega, p, q, s, f, a2, a3⟩
def frN9 (M M' : MM) : Prop := (∀ a, a ≠ 187 → a ≠ 197 → a ≠ 198 → a ≠ 199 → M' a = M a) ∧ (∀ j, j ≠ 20 → M' 187 j = M 187 j) ∧ (OB M → OB M')
theorem frN9.t {M M' M2 : MM} (h1 : frN9 M M') (h2 : frN9 M' M2) : frN9 M M2 := ⟨fun a a1 a2 a3 a4 => (h2.1 a a1 a2 a3 a4).trans (h1.1 a a1 a2 a3 a4), fun j hj => (h2.2.1 j hj).trans (h1.2.1 j hj), fun z => h2.2.2 (h1.2.2 z)⟩
theorem MR.n9 {M M' : MM} {S : ST} (hc : MR M S) (hf : frN9 M M') : MR M' S := hc.keep (fun j hj => hf.2.1 j (by omega)) (fun a ha => hf.1 a (by omega) (by omega) (by omega) (by omega))
theorem frN9.m {M M' : MM} (hf : frN9 M M') : frM M M' := ⟨fun a ha => hf.1 a (by omega) (by omega) (by omega) (by omega), hf.2.2⟩
/-- how many so far, and the lowest -/
def LW (P : Nat → Prop) (e : Nat) (n l : Int) : Prop := n = (cP P e : Nat) ∧ ((cP P e = 0 ∧ l = -9 ∧ ∀ e', e' < e → ¬ P e') ∨ (0 < cP P e ∧ ∃ e0 : Nat, e0 < e ∧ P e0 ∧ (∀ e', e' < e0 → ¬ P e') ∧ l = e0))
theorem LW.y {P : Nat → Prop} {e : Nat} {n l l' n' : Int} (h : LW P e n l) (hp : P e) (hn : n' = n + 1) (h0 : n = 0 → l' = e) (h1 : n ≠ 0 → l' = l) : LW P (e + 1) n' l' := by
  obtain ⟨a1, a2⟩ := h
  unfold LW
  rw [cP_y hp]
  refine ⟨by omega, Or.inr ⟨by omega, ?_⟩⟩
  rcases a2 with ⟨b1, b2, b3⟩ | ⟨b1, e0, b2, b3, b4, b5⟩
  · exact ⟨e, by omega, hp, b3, h0 (by omega)⟩
  · exact ⟨e0, by omega, b3, b4, (h1 (by omega)).trans b5⟩
theorem LW.n {P : Nat → Prop} {e : Nat} {n l : Int} (h : LW P e n l) (hp : ¬ P e) : LW P (e + 1) n l := by
  obtain ⟨a1, a2⟩ := h
  unfold LW
  rw [cP_n hp]
  refine ⟨a1, ?_⟩
  rcases a2 with ⟨b1, b2, b3⟩ | ⟨b1, e0, b2, b3, b4, b5⟩
  · refine Or.inl ⟨b1, b2, fun e' he => ?_⟩
    by_cases c : e' = e
    · subst c; exact hp
    · exact b3 e' (by omega)
  · exact Or.inr ⟨b1, e0, by omega, b3, b4, b5⟩
theorem LW.b {P : Nat → Prop} {e : Nat} {n l : Int} (h : LW P e n l) : 0 ≤ n ∧ n ≤ e := by
  have := cP_le P e
  have := h.1
  omega
theorem LW.l {P : Nat → Prop} {e : Nat} {n l : Int} (h : LW P e n l) (hp : ∀ v, P v → v < e) : isLst P l := by
  obtain ⟨a1, a2⟩ := h
  rcases a2 with ⟨b1, b2, b3⟩ | ⟨b1, e0, b2, b3, b4, b5⟩
  · exact Or.inl ⟨b2, fun v z => b3 v (hp v z) z⟩
  · exact Or.inr ⟨e0, b5, b3, b4⟩
theorem LW_1 {P : Nat → Prop} (h : ¬ P 0) : LW P 1 0 (-9) := by
  unfold LW
  rw [cP_n h]
  exact ⟨rfl, Or.inl ⟨rfl, rfl, fun e he => by rw [show e = 0 by omega]; exact h⟩⟩
def OutMR (Q : QT) (L : Nat) (M : MM) (S : ST) (R : Int → Prop) : Prop := ∀ r M', R r → MR M' S → frM M M' → Q (some (VI r)) (W0 L) M'
theorem isNr_b {G : GT} {v : Nat} (h : isNr G v) : v % 2 = 1 ∧ v ≤ 1023 := h.1
section Mod
variable {Γ : GG} {L : Nat} {M : MM} {Q : QT} {S : ST} {G : GT}
theorem m_nearsOf (hG : GOK Γ) {a : Nat} (ha : RwL L a) (ha2 : a < 197) (ha3 : 187 < a) (hr : RwR M a G) (hw : WFG G) (h : ∀ M', OdR M' (qn G + 1) (qV G) (qD G) → NF M' G → frN9 M M' → Q none (W0 L) M') : wp Γ mX10_nearsOf 0 [some (VR 187), some (VR a)] [] 0 0 (W0 L) M Q := by
  have n12 := hw.1
  refine vc_go hG 60 (B := bX10_nearsOf) rfl ?_
  refine And.intro rfl ?_
  refine m_reckons hG ha ha2 ha3 hr hw (fun M1 o1 k1 => ?_)
  refine And.intro (Or.inl ha.1) (Exists.intro 56 (And.intro rfl (And.intro (by rw [ha.2]; decide) ?_)))
  refine And.intro rfl ?_
  have r1 := hr.keep (k1.1 a (by omega) (by omega) (by omega))
  refine m_nears hG (show qn G + 1 ≤ 14 by omega) (fun k hk => (WFG_V hw k (by omega)).2.1) (fun k hk => by have := WFG_D hw k (by omega); omega) o1 r1.2.2.1 (fun M2 F2 f2 => ?_)
  exact h M2 (o1.keep (by rw [f2 187 (by decide)]) (f2 197 (by decide)) (f2 198 (by decide))) (NF_of hw F2) ⟨fun b b1 b2 b3 b4 => by rw [f2 b b4]; exact k1.1 b b1 b2 b3, fun j hj => by rw [f2 187 (by decide)]; exact k1.2.1 j hj, fun z => (k1.2.2 z).keep (f2 197 (by decide)) (f2 198 (by decide))⟩
theorem m_isOddNumber (hG : GOK Γ) {w : Wd} {v : Int} (h1 : isOddN v → Q (some (VI 1)) w M) (h0 : ¬ isOddN v → Q (some (VI 0)) w M) : wp Γ mX10_isOddNumber 0 [some (VI v)] [] 0 0 w M Q := by
  unfold isOddN at h1 h0
  refine vc_go hG 60 (B := bX10_isOddNumber) rfl ?_
  refine m_isConstant hG (fun z => ?_) (fun z => And.intro (fun c => And.intro (Or.inl rfl) (h0 (fun x => z ⟨x.1, x.2.1⟩))) (fun c => absurd rfl c))
  refine And.intro (fun c => absurd c (by decide)) (fun c => ?_)
  refine And.intro ⟨by omega, by decide⟩ ?_
  exact And.intro (fun y => And.intro (Or.inl rfl) (h0 (fun x => y x.2.2))) (fun y => And.intro (Or.inr rfl) (h1 ⟨z.1, z.2, y⟩))
theorem m_partOf (hG : GOK Γ) {w : Wd} {cI wI : Int} {p q s f : Nat} (ec : cI = ((mcd p q s f + 1 : Nat) : Int)) (hp : p ≤ 13) (hq : q ≤ 13) (hs : s ≤ 9) (hf : f ≤ 3) (h : Q (some (VI (selW wI p q s f))) w M) : wp Γ mX10_partOf 0 [some (VI cI), some (VI wI)] [] 0 0 w M Q := by
  unfold mcd at ec
  have e : cI - 1 = ((1000 * p + 50 * q + 4 * s + f : Nat) : Int) := by omega
  have fin : ∀ r : Int, r = selW wI p q s f → Q (some (VI r)) w M := fun r hr => by rw [hr]; exact h
  have m50 : ((1000 * p + 50 * q + 4 * s + f : Nat) : Int) % 50 = ((4 * s + f : Nat) : Int) := by omega
  have m1000 : ((1000 * p + 50 * q + 4 * s + f : Nat) : Int) % 1000 = ((50 * q + (4 * s + f) : Nat) : Int) := by omega
  unfold selW at fin
  refine vc_go hG 60 (B := bX10_partOf) rfl ?_
  refine And.intro (by omega) ?_
  rw [e]
  refine And.intro (fun y => ?_) (fun y => ?_)
  · rw [if_neg y] at fin
    refine And.intro (fun y2 => ?_) (fun y2 => ?_)
    · rw [if_neg y2] at fin
      refine And.intro (fun y3 => ?_) (fun y3 => ?_)
      · rw [if_neg y3] at fin
        refine And.intro ⟨by omega, by decide⟩ (And.intro ⟨by omega, by decide⟩ (fin _ (by omega)))
      · rw [if_pos y3] at fin
        refine And.intro ⟨by omega, by decide⟩ (And.intro ⟨by omega, by decide⟩ (fin _ (by omega)))
    · rw [if_pos y2] at fin
      refine And.intro ⟨by omega, by decide⟩ (And.intro ⟨by omega, by decide⟩ (fin _ (by omega)))
  · rw [if_pos y] at fin
    exact And.intro ⟨by omega, by decide⟩ (fin _ (by omega))
theorem l_mnear (hG : GOK Γ) (ht : NF M G) {v w : Int} (hw2 : w = 0 ∨ w = 1) (h : ∀ n l, LW (fun e => v < e ∧ isNr G e) 1024 n l → Q (some (VI (if w = 0 then n else l))) (W0 L) M) : ∀ (j e : Nat) (n l : Int), e + j = 1024 → LW (fun e => v < e ∧ isNr G e) e n l → wp Γ mX10_near 37 [some (VR 187), some (VI v), some (VI w), some (VI n), some (VI l), some (VI e)] [] 0 0 (W0 L) M Q := by
  intro j
  induction j with
  | zero =>
    intro e n l hj hL
    have ee : e = 1024 := by omega
    subst ee
    have fin := h n l hL
    refine vc_go hG 60 (B := bX10_near) rfl ?_
    refine And.intro (fun y => ?_) (fun y => by omega)
    refine And.intro (fun y => ?_) (fun y => ?_)
    · rw [if_neg y] at fin
      exact fin
    · rw [if_pos y] at fin
      exact fin
  | succ j ih =>
    intro e n l hj hL
    have hb := hL.b
    refine vc_go hG 60 (B := bX10_near) rfl ?_
    refine And.intro (fun y => by omega) (fun y => ?_)
    refine And.intro (fun y2 => ?_) (fun y2 => ?_)
    · exact And.intro (by omega) (ih (e + 1) n l (by omega) (hL.n (fun z => by have := z.1; omega)))
    · refine And.intro rfl (Exists.intro _ (And.intro rfl ?_))
      refine And.intro (Or.inl rfl) (Exists.intro (e) (And.intro (by omega) (And.intro (show e < 1024 by omega) ?_)))
      rcases ht.nr (show e < 1024 by omega) with ⟨a1, a2, -⟩ | ⟨a1, a2⟩
      · refine And.intro (fun y3 => by omega) (fun y3 => ?_)
        refine And.intro (fun y4 => ?_) (fun y4 => ?_)
        · exact And.intro (by omega) (And.intro (by omega) (ih (e + 1) (n + 1) l (by omega) (hL.y ⟨y2, a1⟩ rfl (fun z => absurd z y4) (fun _ => rfl))))
        · exact And.intro (by omega) (And.intro (by omega) (ih (e + 1) (n + 1) e (by omega) (hL.y ⟨y2, a1⟩ rfl (fun _ => rfl) (fun z => absurd y4 z))))
      · refine And.intro (fun y3 => ?_) (fun y3 => by omega)
        exact And.intro (by omega) (ih (e + 1) n l (by omega) (hL.n (fun z => a1 z.2)))
theorem y_near (hG : GOK Γ) (hc : MR M S) {v w : Int} (h : OutMR Q L M S (nearR (sG S) v w)) : wp Γ mX10_near 0 [some (VR 187), some (VI v), some (VI w)] [] 0 0 (W0 L) M Q := by
  have hc0 := hc.th
  have f0 := frM_th M
  refine vc_go hG 60 (B := bX10_near) rfl ?_
  refine And.intro rfl ?_
  refine And.intro (fun y => h _ _ (Or.inl ⟨fun z => by have := z.1; omega, rfl⟩) hc0 f0) (fun y1 => ?_)
  refine m_in hG (fun z => ?_) (fun z => And.intro (fun c => absurd rfl c) (fun c => h _ _ (Or.inl ⟨fun x => z x.2, rfl⟩) hc0 f0))
  refine And.intro (fun y => ?_) (fun y => absurd y (by decide))
  refine And.intro rfl (Exists.intro _ (And.intro rfl ?_))
  refine And.intro rfl ?_
  refine m_nearsOf hG (RwL_s L) (by decide) (by decide) hc0.1 hc0.2.1 (fun M1 o1 t1 f1 => ?_)
  refine l_mnear hG t1 (by omega) (fun n l hL => ?_) 1023 1 0 (-9) rfl (LW_1 (fun z => by have := isNr_b z.2; omega))
  refine h _ _ (Or.inr ⟨⟨y1, z⟩, ?_⟩) (hc0.n9 f1) (f0.t f1.m)
  by_cases c : w = 0
  · rw [if_pos c]
    exact Or.inl ⟨c, hL.1⟩
  · rw [if_neg c]
    exact Or.inr ⟨by omega, hL.l (fun e he => by have := isNr_b he.2; omega)⟩
theorem y_by (hG : GOK Γ) (hc : MR M S) {v w : Int} (h : OutMR Q L M S (byR (sG S) v w)) : wp Γ mX10_by 0 [some (VR 187), some (VI v), some (VI w)] [] 0 0 (W0 L) M Q := by
  have hc0 := hc.th
  have f0 := frM_th M
  refine vc_go hG 60 (B := bX10_by) rfl ?_
  refine And.intro rfl ?_
  refine m_isOddNumber hG (fun ho => ?_) (fun ho => And.intro (fun y => h _ _ (Or.inl ⟨fun z => ho z.1, rfl⟩) hc0 f0) (fun y => absurd rfl y))
  refine And.intro (fun y => absurd y (by decide)) (fun y => ?_)
  refine m_in hG (fun z => ?_) (fun z => And.intro (fun c => absurd rfl c) (fun c => h _ _ (Or.inl ⟨fun x => z x.2, rfl⟩) hc0 f0))
  refine And.intro (fun y => ?_) (fun y => absurd y (by decide))
  refine And.intro rfl (Exists.intro _ (And.intro rfl ?_))
  refine And.intro rfl ?_
  refine m_nearsOf hG (RwL_s L) (by decide) (by decide) hc0.1 hc0.2.1 (fun M1 o1 t1 f1 => ?_)
  have hc1 := hc0.n9 f1
  have f2 := f0.t f1.m
  obtain ⟨u1, u2, u3⟩ := id ho
  refine And.intro rfl (Exists.intro _ (And.intro rfl ?_))
  refine And.intro (Or.inl rfl) (Exists.intro (v.toNat) (And.intro (by omega) (And.intro (show v.toNat < 1024 by omega) ?_)))
  rcases t1.nr (v := v.toNat) (by omega) with ⟨a1, a2, p, q, s, g, a3, a4⟩ | ⟨a1, a2⟩
  · have bb := byW_b hc.2.1 a3
    refine And.intro (fun y => ?_) (fun y => by omega)
    refine And.intro rfl (Exists.intro _ (And.intro rfl ?_))
    refine And.intro (Or.inl rfl) (Exists.intro (v.toNat) (And.intro (by omega) (And.intro (show v.toNat < 1024 by omega) ?_)))
    exact m_partOf hG a4 (by omega) (by omega) bb.2.2.1 bb.2.2.2.1 (h _ _ (Or.inr ⟨⟨ho, z⟩, Or.inr ⟨a1, p, q, s, g, a3, rfl⟩⟩) hc1 f2)
  · refine And.intro (fun y => by omega) (fun y => ?_)
    exact h _ _ (Or.inr ⟨⟨ho, z⟩, Or.inl ⟨a1, rfl⟩⟩) hc1 f2
end Mod
