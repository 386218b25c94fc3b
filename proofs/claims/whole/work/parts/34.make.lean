/-! ===== the class's Plan: made ===== -/
theorem addG_V {G : GT} {p s q f k : Nat} (hk : k ≤ qn G) : qV (addG G p s q f) k = qV G k := upN_ne (by omega)
theorem addG_D {G : GT} {p s q f k : Nat} (hk : k ≤ qn G) : qD (addG G p s q f) k = qD G k := upN_ne (by omega)
theorem NrF.add {M : MM} {a : Nat} {G : GT} (h : NrF M a G) (p s q f : Nat) : NrT M a (addG G p s q f) (ThG (addG G p s q f) (qn G + 1)) (XG (addG G p s q f) (qn G + 1)) := by
  have hb : ∀ p' q' s' f', p' ≤ q' → q' < qn G + 1 → mkV G p' q' s' f' = mkV (addG G p s q f) p' q' s' f' ∧ dpt G p' q' = dpt (addG G p s q f) p' q' := by
    intro p' q' s' f' h1 h2
    unfold mkV dpt
    rw [addG_V (by omega), addG_V (by omega), addG_D (by omega), addG_D (by omega)]
    exact ⟨rfl, rfl⟩
  refine NrT.congr (NrT.graph h (fun p' q' s' f' hx => hb p' q' s' f' hx.1 hx.2.1)) (fun v => ?_) (fun p' q' s' f' => ?_)
  · unfold ThG
    constructor
    · rintro ⟨k, h1, h2⟩
      exact ⟨k, h1, by rw [addG_V (by omega)]; exact h2⟩
    · rintro ⟨k, h1, h2⟩
      exact ⟨k, h1, by rw [addG_V (by omega)] at h2; exact h2⟩
  · unfold XG mayB
    constructor
    · rintro ⟨h1, h2, h3, h4, h5⟩
      refine ⟨h1, h2, h3, h4, ?_⟩
      rw [addG_V (by omega), addG_V (by omega), addG_D (by omega), addG_D (by omega)]
      exact h5
    · rintro ⟨h1, h2, h3, h4, h5⟩
      refine ⟨h1, h2, h3, h4, ?_⟩
      rw [addG_V (by omega), addG_V (by omega), addG_D (by omega), addG_D (by omega)] at h5
      exact h5
def pMore (G : GT) : Prop := qn G < 12 ∧ 0 < nMt G (qm G)
def pStep (G G' : GT) : Prop := ∃ x p q s f : Nat, isCh G x ∧ byW G x p q s f ∧ G' = addG G p s q f
def PRun : Nat → GT → GT → Prop
  | 0, G, H => G = H ∧ ¬ (pMore G ∧ ∃ G', pStep G G')
  | k + 1, G, H => pMore G ∧ ∃ G', pStep G G' ∧ PRun k G' H
def isPl (G H : GT) : Prop := ∃ k, PRun k G H
theorem byW_wf {G : GT} (hw : WFG G) (hn : qn G < 12) {v p q s f : Nat} (h : byW G v p q s f) : WFG (addG G p s q f) := by
  have b := byW_b hw h
  exact addG_wf hw b.1 b.2.2.1 b.2.1 b.2.2.2.1 hn h.1.2.2.2.2
theorem pStep_u {G G1 G2 : GT} (hw : WFG G) (h1 : pStep G G1) (h2 : pStep G G2) : G1 = G2 := by
  obtain ⟨x, p, q, s, f, a1, a2, a3⟩ := h1
  obtain ⟨x', p', q', s', f', b1, b2, b3⟩ := h2
  have e := isCh_u a1 b1
  have e' : x = x' := by omega
  subst e'
  obtain ⟨e1, e2, e3, e4⟩ := byW_u hw a2 b2
  subst e1 e2 e3 e4
  rw [a3, b3]
theorem pStep_wf {G G' : GT} (hw : WFG G) (hm : pMore G) (h : pStep G G') : WFG G' := by
  obtain ⟨x, p, q, s, f, a1, a2, a3⟩ := h
  rw [a3]
  exact byW_wf hw hm.1 a2
theorem PRun_u : ∀ {k : Nat} {G H : GT} {k' : Nat} {H' : GT}, WFG G → PRun k G H → PRun k' G H' → H = H'
  | 0, G, H, 0, H', _, h, h' => h.1.symm.trans h'.1
  | 0, G, H, k' + 1, H', _, h, h' => absurd ⟨h'.1, h'.2.choose, h'.2.choose_spec.1⟩ h.2
  | k + 1, G, H, 0, H', _, h, h' => absurd ⟨h.1, h.2.choose, h.2.choose_spec.1⟩ h'.2
  | k + 1, G, H, k' + 1, H', hw, h, h' => by
    obtain ⟨hm, G1, h1, h2⟩ := h
    obtain ⟨-, G2, h1', h2'⟩ := h'
    have e := pStep_u hw h1 h1'
    subst e
    exact PRun_u (pStep_wf hw hm h1) h2 h2'
theorem isPl_u {G H H' : GT} (hw : WFG G) (h : isPl G H) (h' : isPl G H') : H = H' := by
  obtain ⟨k, h⟩ := h
  obtain ⟨k', h'⟩ := h'
  exact PRun_u hw h h'
theorem isPl_0 {G : GT} (h : ¬ (pMore G ∧ ∃ G', pStep G G')) : isPl G G := ⟨0, rfl, h⟩
theorem isPl_s {G G' H : GT} (hm : pMore G) (h : pStep G G') (hp : isPl G' H) : isPl G H := by
  obtain ⟨k, hp⟩ := hp
  exact ⟨k + 1, hm, G', h, hp⟩
section Plan
variable {Γ : GG} {L : Nat} {M : MM} {Q : QT} {G : GT}
theorem l_make (hG : GOK Γ) (G0 : GT) (h : ∀ H M', isPl G0 H → WFG H → GrR M' 157 H → M' 156 2 = qn G0 → (∀ b, b < 156 ∨ 169 < b → M' b = M b) → Q none (W0 L) M') {gI nI : AV} : ∀ (j : Nat) (G : GT) (M1 : MM), qn G + j = 12 → WFG G → GrR M1 157 G → NrF M1 167 G → M1 156 2 = qn G0 → (∀ b, b < 156 ∨ 169 < b → M1 b = M b) → (∀ H, isPl G H → isPl G0 H) → wp Γ mX5_make 29 [some (VR 156), some gI, some nI, some (VI (qn G : Nat))] [] 0 0 (W0 L) M1 Q := by
  have gl := W0_g157 L
  have nl := W0_n167 L
  intro j
  induction j with
  | zero =>
    intro G M1 hj hw hr ht h2 hf hp
    refine vc_go hG 60 (B := bX5_make) rfl ?_
    refine And.intro (fun b => ?_) (fun b => by omega)
    exact h G M1 (hp G (isPl_0 (fun z => by have := z.1.1; omega))) hw hr h2 hf
  | succ j ih =>
    intro G M1 hj hw hr ht h2 hf hp
    refine vc_go hG 60 (B := bX5_make) rfl ?_
    refine And.intro (fun b => by omega) (fun b => ?_)
    refine And.intro rfl (Exists.intro _ (And.intro rfl ?_))
    refine And.intro rfl ?_
    refine c_notMet hG gl hr hw ?_
    refine And.intro (fun c => ?_) (fun c => ?_)
    · exact h G M1 (hp G (isPl_0 (fun z => by have := z.1.2; omega))) hw hr h2 hf
    have hm : pMore G := ⟨by omega, by omega⟩
    refine And.intro rfl (Exists.intro _ (And.intro rfl ?_))
    refine And.intro rfl ?_
    refine c_choice hG ht hr hw (fun x hx => ?_)
    refine And.intro rfl ?_
    have split : x = -9 ∨ ∃ n : Nat, x = n := by
      rcases hx with ⟨e, -, h1⟩ | ⟨-, ⟨e, -, ⟨h1, -⟩ | ⟨t, h1, -⟩⟩ | ⟨-, h1⟩⟩
      · exact Or.inr ⟨e, h1⟩
      · exact Or.inl h1
      · exact Or.inr ⟨t, h1⟩
      · exact Or.inl h1
    rcases split with e | ⟨n, e⟩
    · subst e
      refine c_wayN hG (fun z => by have := z.1; omega) ?_
      refine And.intro (fun d => absurd d (by decide)) (fun d => ?_)
      refine h G M1 (hp G (isPl_0 ?_)) hw hr h2 hf
      rintro ⟨-, G', x', p, q, s, f, a1, -⟩
      have := isCh_u hx a1
      omega
    · subst e
      obtain ⟨⟨o1, o2⟩, o3, p, q, s, f, o4⟩ := isCh_nr hx
      have hi : n / 2 < 512 := by omega
      have en : n = 2 * (n / 2) + 1 := by omega
      refine c_way hG nl ht hi (by omega) ?_
      have ew : M1 (167 + 1) (n / 2) = (cdw p q s f : Nat) := by
        rcases ht.cases hi with ⟨z, -⟩ | ⟨-, z, -⟩ | ⟨-, p', q', s', f', z1, z2, -⟩
        · rw [← en] at z; exact absurd z o3
        · rw [← en] at z; exact absurd o4 (z p q s f)
        · rw [← en] at z1
          obtain ⟨e1, e2, e3, e4⟩ := byW_u hw o4 z1
          subst e1 e2 e3 e4
          exact z2
      have bb := byW_b hw o4
      have hx1 : cms (qV G p) s (qV G q) f ≤ 1023 := o4.1.2.2.2.2.2.1
      refine And.intro (fun d => ?_) (fun d => by omega)
      refine And.intro rfl (Exists.intro _ (And.intro rfl ?_))
      refine And.intro rfl ?_
      refine c_appendW hG gl hr hw ew bb.1 bb.2.2.1 bb.2.1 bb.2.2.2.1 (by omega) hx1 (fun M' g1 g2 => ?_)
      have hw' : WFG (addG G p s q f) := byW_wf hw (by omega) o4
      have t1 : NrT M' 167 (addG G p s q f) (ThG (addG G p s q f) (qn G + 1)) (XG (addG G p s q f) (qn G + 1)) := NrT.keep (NrF.add ht p s q f) (g2 _ (by omega)) (g2 _ (by omega))
      refine And.intro rfl (Exists.intro _ (And.intro rfl ?_))
      refine And.intro rfl (Exists.intro _ (And.intro rfl ?_))
      refine And.intro rfl (Exists.intro _ (And.intro rfl ?_))
      refine And.intro rfl ?_
      refine And.intro rfl ?_
      refine c_widen hG nl gl (by omega) g1 hw' t1 (k := qn G + 1) g1.1 (Nat.le_refl _) (fun M2 k1 k2 => ?_)
      refine And.intro (by omega) ?_
      refine wp_pre [some (VR 156), some gI, some nI, some (VI ((qn (addG G p s q f) : Nat) : Int))] _ ?_
      refine ih (addG G p s q f) M2 (show qn G + 1 + j = 12 by omega) hw' (g1.frn k2 (by omega)) (k1.congr (fun v => ThG_s) (fun p q s f => XG_s)) ?_ (fun b hb => ?_) (fun H hH => hp H (isPl_s hm ⟨n, p, q, s, f, hx, o4, rfl⟩ hH))
      · rw [k2 156 (by omega) (by omega), g2 156 (by omega)]; exact h2
      · rw [k2 b (by omega) (by omega), g2 b (by omega)]; exact hf b hb
theorem c_make (hG : GOK Γ) (hr : GrR M 2 G) (hw : WFG G) (ht : NrF M 153 G) (h : ∀ H M', isPl G H → WFG H → GrR M' 157 H → M' 156 2 = qn G → (∀ b, b < 156 ∨ 169 < b → M' b = M b) → Q none (W0 L) M') : wp Γ mX5_make 0 [some (VR 156), some (VR 2), some (VR 153)] [] 0 0 (W0 L) M Q := by
  refine vc_go hG 60 (B := bX5_make) rfl ?_
  refine And.intro rfl (Exists.intro _ (And.intro rfl ?_))
  refine And.intro rfl ?_
  refine c_copy hG (W0_g157 L) (W0_g2 L) (by omega) hr hw (fun M1 g1 g2 => ?_)
  refine And.intro rfl (Exists.intro _ (And.intro rfl ?_))
  refine And.intro rfl ?_
  refine c_ncopy hG (W0_n167 L) (W0_n153 L) (by omega) (fun M2 k1 k2 => ?_)
  have e2 : M2 2 2 = qn G := by rw [k2 2 (by omega) (by omega), g2 2 (by omega)]; exact hr.1
  have hn := hw.1
  refine And.intro rfl ?_
  refine And.intro rfl ?_
  refine And.intro rfl ?_
  rw [e2, upM_eq]
  refine l_make hG G h (12 - qn G) G _ (by omega) hw ?_ ?_ upM_eq (fun b hb => ?_) (fun H hH => hH)
  · exact (g1.frn k2 (by omega)).keep (fun b b1 b2 => upM_ne (by omega))
  · refine NrT.keep (NrT.copy (M := M1) (NrT.keep ht (g2 _ (by omega)) (g2 _ (by omega))) k1) (upM_ne (by decide)) (upM_ne (by decide))
  · rw [upM_ne (by omega), k2 b (by omega) (by omega), g2 b (by omega)]
theorem c_made (hG : GOK Γ) {H : GT} (hr : GrR M 157 H) (hw : WFG H) {n : Nat} (h2 : M 156 2 = n) (hn : n ≤ 12) (h : Q (some (VI ((qn H : Nat) - (n : Nat) : Int))) (W0 L) M) : wp Γ mX5_made 0 [some (VR 156)] [] 0 0 (W0 L) M Q := by
  have e := hr.1
  have := hw.1
  refine vc_go hG 60 (B := bX5_made) rfl ?_
  refine And.intro rfl (Exists.intro _ (And.intro rfl ?_))
  refine And.intro rfl ?_
  refine And.intro rfl ?_
  rw [e, h2]
  refine And.intro (by omega) ?_
  exact h
theorem c_pvalue (hG : GOK Γ) {H : GT} (hr : GrR M 157 H) (hw : WFG H) {n : Nat} (h2 : M 156 2 = n) (hn : n ≤ 12) {i : Int} (h1 : ∀ k : Nat, i = k → k + n < qn H → Q (some (VI (qV H (n + 1 + k) : Nat))) (W0 L) M) (h0 : ¬ (0 ≤ i ∧ i + n < qn H) → Q (some (VI (-9))) (W0 L) M) : wp Γ mX5_value 0 [some (VR 156), some (VI i)] [] 0 0 (W0 L) M Q := by
  have := hw.1
  refine vc_go hG 60 (B := bX5_value) rfl ?_
  refine And.intro (fun b => h0 (by omega)) (fun b => ?_)
  refine And.intro rfl ?_
  refine c_made hG hr hw h2 hn ?_
  refine And.intro (fun c => h0 (by omega)) (fun c => ?_)
  refine And.intro rfl (Exists.intro _ (And.intro rfl ?_))
  refine And.intro rfl ?_
  refine And.intro (by omega) ?_
  refine And.intro (by omega) ?_
  refine And.intro rfl ?_
  obtain ⟨k, rfl⟩ := Int.eq_ofNat_of_zero_le (show 0 ≤ i by omega)
  refine c_value hG (W0_g157 L) hr hw (k := n + 1 + k) (by omega) (by omega) ?_
  exact h1 k rfl (by omega)
end Plan
