/-! ===== the model: reading items ===== -/
section Mod
variable {Γ : GG} {L : Nat} {M : MM} {Q : QT} {n : Nat} {T : Nat → Nat} {G : GT} {t : TK}
theorem RW.q {b : Nat} (h : RW M n T (tok T n b) G) : tB (tok T n b) ≤ n := h.2.2.2.2.2.2.2
theorem ra42 (hG : GOK Γ) {b : Nat} (hw : RW M n T (tok T n b) G) (hn : qn G < 12) {nI pI sI qI : Int} {p s q : Nat} (ep : pI = p) (es : sI = s) (eq : qI = q) (hp : p ≤ qn G) (hs : s ≤ 9) (hq : q ≤ qn G) (h1 : MdY Q L M n T (rdA4 T n b G p s q)) (h0 : MdN Q L M n T (rdA4 T n b G p s q)) : wp Γ mX10_readsAdder 42 [some (VR 187), some (VI nI), some (VI pI), some (VI sI), some (VI qI)] [] 0 0 (W0 L) M Q := by
  have n12 := hw.2.2.2.2.1.1
  have w5 := hw.2.2.2.2.1
  have w7 := hw.2.1
  refine vc_goS hG 60 [57] (B := bX10_readsAdder) rfl ?_
  refine And.intro rfl ?_
  refine m_isWell hG (fun y => ?_) (fun y => by omega)
  refine And.intro (fun y => absurd y (by decide)) (fun y => ?_)
  refine And.intro rfl (Exists.intro _ (And.intro rfl ?_))
  refine And.intro rfl ?_
  refine m_reckons hG (RwL_d L) (by decide) (by decide) hw.2.2.2.1 w5 (fun M1 o1 k1 => ?_)
  have hw1 := hw.rk k1
  have v7 := hw1.2.1
  have fail : rdA4 T n b G p s q = .inl (tS (tok T n b)) → wp Γ mX10_readsAdder 94 [some (VR 187), some (VI nI), some (VI pI), some (VI sI), some (VI qI)] [VI 0, VR 187] 0 0 (W0 L) M1 Q := by
    intro e
    refine vc_go hG 60 (B := bX10_readsAdder) rfl ?_
    refine And.intro rfl ?_
    refine m_takes0 hG v7 ?_
    have ft := hw1.ft
    have ft7 := ft.2.1
    refine And.intro rfl ?_
    refine m_isWell hG (fun y => by omega) (fun y => ?_)
    exact And.intro (fun y => h0 _ _ e ft (k1.d.t (frD_7 _ _))) (fun y => absurd rfl y)
  refine vc_goS hG 60 [94] (B := bX10_readsAdder) rfl ?_
  refine And.intro rfl ?_
  refine m_num hG hw1 (lo := 0) (hi := 3) rfl rfl (fun z => ?_) (fun z => ?_)
  · refine And.intro (fun y => absurd y (by decide)) (fun y => ?_)
    have v6 := hw1.v z
    refine And.intro rfl ?_
    refine And.intro rfl (Exists.intro _ (And.intro rfl ?_))
    refine And.intro (Or.inl rfl) (Exists.intro (56) (And.intro (by omega) (And.intro (show 56 < 57 by omega) ?_)))
    refine And.intro rfl ?_
    refine m_mayBe hG o1 (fun k hk => (WFG_V w5 k (by omega)).2.1) (fun k hk => by have := WFG_D w5 k (by omega); omega) (by omega) ep es eq v6 hw1.2.2.2.1.2.2.1 (by omega) hs (by omega) z.2.2 (fun mb => ?_) (fun mb => ?_)
    · refine And.intro (fun y => absurd y (by decide)) (fun y => ?_)
      have e : rdA4 T n b G p s q = _ := cit_y ⟨z, mb⟩
      refine vc_go hG 60 (B := bX10_readsAdder) rfl ?_
      refine And.intro rfl ?_
      refine m_takes1 hG hw1 (fun M2 hw2 f2 g2 => ?_)
      have u7 := hw2.2.1
      refine And.intro rfl ?_
      refine m_isWell hG (fun y => ?_) (fun y => by omega)
      refine And.intro (fun y => absurd y (by decide)) (fun y => ?_)
      refine And.intro rfl (Exists.intro _ (And.intro rfl ?_))
      refine m_makes hG (RwL_d L) hw2.2.2.2.1 w5 hn ep es eq v6 (fun M3 r3 g3 => ?_)
      exact h1 M3 _ _ e hw1.q (hw2.rw g3 r3 (addG_wf w5 hp hs hq z.2.2 hn mb)) ((k1.d.t f2).t (frD_9 g3))
    · refine And.intro (fun y => ?_) (fun y => absurd rfl y)
      exact fail (cit_n (fun x => mb x.2))
  · refine And.intro (fun y => ?_) (fun y => absurd rfl y)
    exact fail (cit_n (fun x => z x.1))
theorem ra30 (hG : GOK Γ) {b : Nat} (hw : RW M n T (tok T n b) G) (hn : qn G < 12) {nI pI sI : Int} {p s : Nat} (en : nI = qn G) (ep : pI = p) (es : sI = s) (hp : p ≤ qn G) (hs : s ≤ 9) (h1 : MdY Q L M n T (rdA3 T n b G p s)) (h0 : MdN Q L M n T (rdA3 T n b G p s)) : wp Γ mX10_readsAdder 30 [some (VR 187), some (VI nI), some (VI pI), some (VI sI)] [] 0 0 (W0 L) M Q := by
  refine vc_goS hG 60 [42] (B := bX10_readsAdder) rfl ?_
  refine And.intro rfl ?_
  refine m_num hG hw (lo := 0) rfl en (fun z => ?_) (fun z => ?_)
  · have e : rdA3 T n b G p s = _ := cit_y z
    refine And.intro rfl ?_
    refine m_takes1 hG hw (fun M2 hw2 f2 g2 => ?_)
    exact ra42 hG hw2 hn ep es (hw.v z) hp hs z.2.2 (h1.s e f2) (h0.s e f2)
  · have e : rdA3 T n b G p s = _ := cit_n z
    have ft := hw.ft
    refine And.intro rfl ?_
    refine m_takes0 hG hw.2.1 ?_
    exact fl42 hG (by have := ft.2.1; omega) ft.2.2.1 (l := qL G) (q := 0) (by rw [upM_a (by decide)]; exact hw.2.2.2.1.2.2.1) (by omega) hs (by decide) ep es rfl (h0 _ _ e ft (frD_7 _ _))
theorem ra18 (hG : GOK Γ) {b : Nat} (hw : RW M n T (tok T n b) G) (hn : qn G < 12) {nI pI : Int} {p : Nat} (en : nI = qn G) (ep : pI = p) (hp : p ≤ qn G) (h1 : MdY Q L M n T (rdA2 T n b G p)) (h0 : MdN Q L M n T (rdA2 T n b G p)) : wp Γ mX10_readsAdder 18 [some (VR 187), some (VI nI), some (VI pI)] [] 0 0 (W0 L) M Q := by
  refine vc_goS hG 60 [30] (B := bX10_readsAdder) rfl ?_
  refine And.intro rfl ?_
  refine m_num hG hw (lo := 0) (hi := 9) rfl rfl (fun z => ?_) (fun z => ?_)
  · have e : rdA2 T n b G p = _ := cit_y z
    refine And.intro rfl ?_
    refine m_takes1 hG hw (fun M2 hw2 f2 g2 => ?_)
    exact ra30 hG hw2 hn en ep (hw.v z) hp z.2.2 (h1.s e f2) (h0.s e f2)
  · have e : rdA2 T n b G p = _ := cit_n z
    have ft := hw.ft
    refine And.intro rfl ?_
    refine m_takes0 hG hw.2.1 ?_
    exact fl30 hG (by have := ft.2.1; omega) ft.2.2.1 (l := qL G) (s := 0) (by rw [upM_a (by decide)]; exact hw.2.2.2.1.2.2.1) (by omega) (by decide) ep rfl (h0 _ _ e ft (frD_7 _ _))
theorem m_readsAdder (hG : GOK Γ) {b : Nat} (hw : RW M n T (tok T n b) G) (hn : qn G < 12) (h1 : MdY Q L M n T (rdA1 T n b G)) (h0 : MdN Q L M n T (rdA1 T n b G)) : wp Γ mX10_readsAdder 0 [some (VR 187)] [] 0 0 (W0 L) M Q := by
  refine vc_goS hG 60 [18] (B := bX10_readsAdder) rfl ?_
  refine And.intro rfl (Exists.intro _ (And.intro rfl ?_))
  refine And.intro (Or.inl rfl) (Exists.intro (0) (And.intro (by omega) (And.intro (show 0 < 57 by omega) ?_)))
  refine And.intro rfl ?_
  refine m_num hG hw (lo := 0) rfl hw.2.2.2.1.1 (fun z => ?_) (fun z => ?_)
  · have e : rdA1 T n b G = _ := cit_y z
    refine And.intro rfl ?_
    refine m_takes1 hG hw (fun M2 hw2 f2 g2 => ?_)
    exact ra18 hG hw2 hn hw.2.2.2.1.1 (hw.v z) z.2.2 (h1.s e f2) (h0.s e f2)
  · have e : rdA1 T n b G = _ := cit_n z
    have ft := hw.ft
    refine And.intro rfl ?_
    refine m_takes0 hG hw.2.1 ?_
    exact fl18 hG (by have := ft.2.1; omega) ft.2.2.1 (l := qL G) (p := 0) (by rw [upM_a (by decide)]; exact hw.2.2.2.1.2.2.1) (by decide) rfl (h0 _ _ e ft (frD_7 _ _))
theorem ri108 (hG : GOK Γ) {b : Nat} (hw : RW M n T (tok T n b) G) (h1 : MdY Q L M n T (rdLim T n b G)) (h0 : MdN Q L M n T (rdLim T n b G)) : wp Γ mX10_readsItem 0 [some (VR 187), some (VI 108)] [] 0 0 (W0 L) M Q := by
  have n12 := hw.2.2.2.2.1.1
  have m6 := hw.2.2.2.2.1.2.1
  refine vc_go hG 60 (B := bX10_readsItem) rfl ?_
  refine And.intro (fun y => absurd rfl y) (fun y => ?_)
  refine And.intro rfl (Exists.intro _ (And.intro rfl ?_))
  refine And.intro rfl ?_
  refine m_num hG hw (lo := 1) (hi := 9) rfl rfl (fun z => ?_) (fun z => ?_)
  · have e : rdLim T n b G = _ := cit_y z
    refine And.intro rfl ?_
    refine m_takes1 hG hw (fun M2 hw2 f2 g2 => ?_)
    refine And.intro rfl (Exists.intro (56) (And.intro (by omega) (And.intro (show 56 < 57 by omega) ?_)))
    have hv := hw.v z
    refine h1 _ _ _ e hw.q (hw2.rw (fun b hb => upM_ne hb) ?_ (limG_wf hw.2.2.2.2.1 z.2)) (f2.t (frD_9 (fun b hb => upM_ne hb)))
    obtain ⟨s1, s2, s3, s4, s5⟩ := hw2.2.2.2.1
    refine ⟨by rw [upM_k (by decide)]; exact s1, by rw [upM_k (by decide)]; exact s2, by rw [upM_eq]; exact hv, fun k hk => ?_, fun k hk => ?_⟩
    · have hk : k < qn G := hk
      rw [upM_k (by omega), upM_k (by omega), upM_k (by omega), upM_k (by omega)]
      exact s4 k hk
    · have hk : k < qm G := hk
      rw [upM_k (by omega)]
      exact s5 k hk
  · have e : rdLim T n b G = _ := cit_n z
    refine And.intro rfl ?_
    refine m_takes0 hG hw.2.1 ?_
    refine And.intro rfl (Exists.intro (56) (And.intro (by omega) (And.intro (show 56 < 57 by omega) ?_)))
    exact h0 _ _ e (hw.ft.k (fun b hb => upM_ne hb)) ((frD_7 _ _).t (frD_9 (fun b hb => upM_ne hb)))
theorem ri119 (hG : GOK Γ) {b : Nat} (hw : RW M n T (tok T n b) G) (hm : qm G < 6) (h1 : MdY Q L M n T (rdWsh T n b G)) (h0 : MdN Q L M n T (rdWsh T n b G)) : wp Γ mX10_readsItem 0 [some (VR 187), some (VI 119)] [] 0 0 (W0 L) M Q := by
  have w7 := hw.2.1
  have fail : rdWsh T n b G = .inl (tS (tok T n b)) → wp Γ mX10_readsItem 64 [some (VR 187), some (VI 119)] [VI 0, VR 187] 0 0 (W0 L) M Q := by
    intro e
    refine vc_go hG 60 (B := bX10_readsItem) rfl ?_
    refine And.intro rfl ?_
    refine m_takes0 hG w7 ?_
    have ft := hw.ft
    have ft7 := ft.2.1
    refine And.intro rfl ?_
    refine m_isWell hG (fun y => by omega) (fun y => ?_)
    exact And.intro (fun y => h0 _ _ e ft (frD_7 _ _)) (fun y => absurd rfl y)
  refine vc_goS hG 60 [64] (B := bX10_readsItem) rfl ?_
  refine And.intro (fun y => ?_) (fun y => absurd y (by decide))
  refine And.intro (fun y => absurd rfl y) (fun y => ?_)
  refine And.intro rfl ?_
  refine m_num hG hw (lo := 1) (hi := 1023) rfl rfl (fun z => ?_) (fun z => ?_)
  · refine And.intro (fun y => absurd y (by decide)) (fun y => ?_)
    have hv := hw.v z
    refine And.intro rfl (Exists.intro _ (And.intro rfl ?_))
    refine And.intro rfl ?_
    refine m_wantedAt hG (RwL_d L) hw.2.2.2.1 hw.2.2.2.2.1 hv (fun k hk ek => ?_) (fun hno => ?_)
    · exact And.intro (fun y => fail (cit_n (fun x => x.2 k hk ek))) (fun y => by omega)
    · refine And.intro (fun y => absurd y (by decide)) (fun y => ?_)
      have e : rdWsh T n b G = _ := cit_y ⟨z, hno⟩
      refine vc_go hG 60 (B := bX10_readsItem) rfl ?_
      refine And.intro rfl ?_
      refine m_takes1 hG hw (fun M2 hw2 f2 g2 => ?_)
      have u7 := hw2.2.1
      refine And.intro rfl ?_
      refine m_isWell hG (fun y => ?_) (fun y => by omega)
      refine And.intro (fun y => absurd y (by decide)) (fun y => ?_)
      have r2 := hw2.2.2.2.1
      have j49 := r2.2.1
      refine And.intro rfl (Exists.intro _ (And.intro rfl ?_))
      refine And.intro rfl (Exists.intro _ (And.intro rfl ?_))
      refine And.intro (Or.inl rfl) (Exists.intro (49) (And.intro (by omega) (And.intro (show 49 < 57 by omega) ?_)))
      refine And.intro (by omega) ?_
      refine And.intro rfl (Exists.intro (50 + qm G) (And.intro (by omega) (And.intro (show 50 + qm G < 57 by omega) ?_)))
      refine And.intro rfl (Exists.intro _ (And.intro rfl ?_))
      refine And.intro (Or.inl rfl) (Exists.intro (49) (And.intro (by omega) (And.intro (show 49 < 57 by omega) ?_)))
      refine And.intro (by rw [upM_k (by omega)]; omega) ?_
      refine And.intro rfl (Exists.intro (49) (And.intro (by omega) (And.intro (show 49 < 57 by omega) ?_)))
      refine h1 _ _ _ e hw.q (hw2.rw (fun b hb => by rw [upM_ne hb, upM_ne hb]) (r2.wsh hw2.2.2.2.2.1 hm (by rw [upM_eq, upM_k (by omega), j49]; omega) (by rw [upM_k (by omega), upM_eq]; exact hv) (fun i i1 i2 => by rw [upM_k i1, upM_k i2])) (wshG_wf hw.2.2.2.2.1 hm z.2 hno)) (f2.t (frD_9 (fun b hb => by rw [upM_ne hb, upM_ne hb])))
  · exact And.intro (fun y => fail (cit_n (fun x => z x.1))) (fun y => absurd rfl y)
theorem ri97 (hG : GOK Γ) {b : Nat} (hw : RW M n T (tok T n b) G) (hn : qn G < 12) (h1 : MdY Q L M n T (rdA1 T n b G)) (h0 : MdN Q L M n T (rdA1 T n b G)) : wp Γ mX10_readsItem 0 [some (VR 187), some (VI 97)] [] 0 0 (W0 L) M Q := by
  refine vc_go hG 60 (B := bX10_readsItem) rfl ?_
  refine And.intro (fun y => ?_) (fun y => absurd y (by decide))
  refine And.intro (fun y => ?_) (fun y => absurd y (by decide))
  refine And.intro rfl ?_
  exact m_readsAdder hG hw hn h1 h0
theorem m_mayBegin (hG : GOK Γ) (hr : RwR M 189 G) {kI : Int} {k : Nat} (ek : kI = k) (h1 : ((M 187 6 = 108 ∧ k = 0) ∨ (M 187 6 = 119 ∧ qm G < 6) ∨ (M 187 6 ≠ 108 ∧ M 187 6 ≠ 119 ∧ qn G < 12)) → Q (some (VI 1)) (W0 L) M) (h0 : ((M 187 6 = 108 ∧ k ≠ 0) ∨ (M 187 6 = 119 ∧ ¬ qm G < 6) ∨ (M 187 6 ≠ 108 ∧ M 187 6 ≠ 119 ∧ ¬ qn G < 12)) → Q (some (VI 0)) (W0 L) M) : wp Γ mX10_mayBegin 0 [some (VR 187), some (VI kI)] [] 0 0 (W0 L) M Q := by
  subst ek
  have r1 := hr.1
  have r2 := hr.2.1
  refine vc_go hG 60 (B := bX10_mayBegin) rfl ?_
  refine And.intro rfl ?_
  refine And.intro (fun y => ?_) (fun y => ?_)
  · refine And.intro rfl ?_
    refine And.intro (fun y2 => ?_) (fun y2 => ?_)
    · refine And.intro rfl (Exists.intro _ (And.intro rfl ?_))
      refine And.intro (Or.inl rfl) (Exists.intro (0) (And.intro (by omega) (And.intro (show 0 < 57 by omega) ?_)))
      exact And.intro (fun y3 => And.intro (Or.inl rfl) (h0 (Or.inr (Or.inr ⟨y, y2, by omega⟩)))) (fun y3 => And.intro (Or.inr rfl) (h1 (Or.inr (Or.inr ⟨y, y2, by omega⟩))))
    · refine And.intro rfl (Exists.intro _ (And.intro rfl ?_))
      refine And.intro (Or.inl rfl) (Exists.intro (49) (And.intro (by omega) (And.intro (show 49 < 57 by omega) ?_)))
      exact And.intro (fun y3 => And.intro (Or.inl rfl) (h0 (Or.inr (Or.inl ⟨y2, by omega⟩)))) (fun y3 => And.intro (Or.inr rfl) (h1 (Or.inr (Or.inl ⟨y2, by omega⟩))))
  · exact And.intro (fun y3 => And.intro (Or.inl rfl) (h0 (Or.inl ⟨y, by omega⟩))) (fun y3 => And.intro (Or.inr rfl) (h1 (Or.inl ⟨y, by omega⟩)))
/-- all is told: it is there -/
theorem m_settles (hG : GOK Γ) (hr : RwR M 189 G) (hw : WFG G) {T : Nat → Nat} {H I : Nat → GT} {m r : Nat → Nat} (h : ∀ M', MR M' (G, (0, T), (0, H), (fun _ => 0, I), (0, m, r)) → frM M M' → Q none (W0 L) M') : wp Γ mX10_settles 0 [some (VR 187)] [] 0 0 (W0 L) M Q := by
  refine vc_go hG 60 (B := bX10_settles) rfl ?_
  refine And.intro rfl (Exists.intro _ (And.intro rfl ?_))
  refine And.intro rfl (Exists.intro _ (And.intro rfl ?_))
  refine m_copies hG (RwL_d L) (RwL_s L) (by decide) (fun M1 c1 c2 => ?_)
  refine And.intro rfl ?_
  refine And.intro rfl ?_
  refine And.intro rfl ?_
  refine And.intro rfl (Exists.intro _ (And.intro rfl ?_))
  refine And.intro rfl (Exists.intro 0 (And.intro rfl (And.intro (show 0 < 2 by decide) (And.intro (Or.inl rfl) ?_))))
  refine And.intro rfl (Exists.intro _ (And.intro rfl ?_))
  refine And.intro rfl (Exists.intro 1 (And.intro rfl (And.intro (show 1 < 2 by decide) (And.intro (Or.inl rfl) ?_))))
  refine h _ ⟨(hr.cp hw c1).keep (by rw [upM_ne (by decide), upM_ne (by decide), upM_ne (by decide), upM_ne (by decide), upM_ne (by decide)]), hw, ⟨by rw [upM_a (by decide), upM_a (by decide), upM_k (by decide), upM_k (by decide), upM_eq]; rfl, Nat.zero_le _, fun k hk => absurd hk (Nat.not_lt_zero k)⟩, ⟨by rw [upM_a (by decide), upM_a (by decide), upM_eq]; rfl, Nat.zero_le _, fun k hk => absurd hk (Nat.not_lt_zero k)⟩, fun i hi => ⟨?_, Nat.zero_le _, fun z => absurd z (show ¬ (0 : Nat) = 1 by decide)⟩, ⟨by rw [upM_a (by decide), upM_a (by decide), upM_k (by decide), upM_eq]; rfl, Nat.zero_le _, fun k hk => absurd hk (Nat.not_lt_zero k)⟩⟩ (frM.o (fun a ha => by rw [upM_ne (by omega), upM_ne (by omega), upM_ne (by omega), upM_ne (by omega), upM_ne (by omega)]; exact c2 a (by omega)))
  show _ = (0 : Int)
  by_cases q : i = 1
  · subst q; rw [upM_eq]
  · have e : i = 0 := by omega
    subst e
    rw [upM_k (by decide), upM_eq]
-- the text, from its beginning
theorem mg_fault (hG : GOK Γ) {f : Nat} (hf : RF M n T f) {kI : Int} (h : Q (some (VI (-10 - (f : Int)))) (W0 L) M) : wp Γ mX10_graph 25 [some (VR 187), some (VI kI)] [] 0 0 (W0 L) M Q := by
  obtain ⟨h1, h2, h3, h4⟩ := hf
  have n80 := h1.2.1
  refine vc_go hG 60 (B := bX10_graph) rfl ?_
  refine And.intro rfl ?_
  refine m_isWell hG (fun y => by omega) (fun y => ?_)
  refine And.intro (fun y => ?_) (fun y => absurd rfl y)
  refine And.intro rfl ?_
  refine m_isWell hG (fun y => by omega) (fun y => ?_)
  refine And.intro (fun y => absurd rfl y) (fun y => ?_)
  refine And.intro rfl ?_
  refine And.intro (by omega) ?_
  rw [h2]
  exact h
/-- the item's end, once something was wrong -/
theorem mg_fault77 (hG : GOK Γ) {f : Nat} (hf : RF M n T f) {k : Nat} (hk : k ≤ 80) {wI : Int} (h : Q (some (VI (-10 - (f : Int)))) (W0 L) M) : wp Γ mX10_graph 77 [some (VR 187), some (VI k), some (VI wI)] [] 0 0 (W0 L) M Q := by
  have h2 := hf.2.1
  have fin : ∀ kI : Int, wp Γ mX10_graph 25 [some (VR 187), some (VI kI), some (VI wI)] [] 0 0 (W0 L) M Q := fun kI => wp_pre [some (VR 187), some (VI kI)] [some (VI wI)] (mg_fault hG hf h)
  refine vc_go hG 60 (B := bX10_graph) rfl ?_
  refine And.intro rfl ?_
  refine And.intro (fun y => ?_) (fun y => ?_)
  · refine And.intro rfl ?_
    refine m_takesF hG (by omega) ?_
    exact And.intro (by omega) (fin _)
  · refine And.intro rfl ?_
    refine m_takesF hG (by omega) ?_
    exact And.intro (by omega) (fin _)
theorem l_mgraph (hG : GOK Γ) (R : RS) (h1 : ∀ (M' : MM) (k : Nat) (G' : GT), R = .inr (k, G') → RwR M' 189 G' → WFG G' → frD M M' → wp Γ mX10_graph 116 [some (VR 187), some (VI k)] [] 0 0 (W0 L) M' Q)
    (h0 : ∀ (M' : MM) (f : Nat), R = .inl f → frD M M' → Q (some (VI (-10 - (f : Int)))) (W0 L) M') :
    ∀ (j k b : Nat) (G : GT) (M1 : MM), k + j = 80 → k ≤ b → b ≤ n → RW M1 n T (tok T n b) G → frD M M1 → rdAll T n j k (tok T n b) G = R → wp Γ mX10_graph 25 [some (VR 187), some (VI k)] [] 0 0 (W0 L) M1 Q := by
  intro j
  induction j with
  | zero =>
    intro k b G M1 hj hkb hbn hw hf hR
    have n80 := hw.1.2.1
    have w7 := hw.2.1
    have tb := tok_b (T := T) hbn
    have te : tK (tok T n b) = -1 := tb.2.2.2.2.2.1 (by omega)
    have t0 := (tk_end hw.2.2.1.2.2).2 te
    refine vc_goS hG 60 [116] (B := bX10_graph) rfl ?_
    refine And.intro rfl ?_
    refine m_isWell hG (fun y => ?_) (fun y => by omega)
    refine And.intro (fun y => absurd y (by decide)) (fun y => ?_)
    refine And.intro rfl (And.intro (fun y => ?_) (fun y => absurd t0 y))
    refine And.intro rfl ?_
    refine m_isWell hG (fun y => ?_) (fun y => by omega)
    refine And.intro (fun y => ?_) (fun y => absurd y (by decide))
    exact h1 M1 k G hR.symm hw.2.2.2.1 hw.2.2.2.2.1 hf
  | succ j ih =>
    intro k b G M1 hj hkb hbn hw hf hR
    have n80 := hw.1.2.1
    have w7 := hw.2.1
    have tb := tok_b (T := T) hbn
    have tv := hw.2.2.1.2.2
    have er : rdAll T n (j + 1) k (tok T n b) G = cit (tK (tok T n b) = -1) (.inr (k, G)) (match rdItem T n (tok T n b) k G with
      | .inl f => .inl f
      | .inr bg => rdAll T n j (k + 1) (tok T n bg.1) bg.2) := rfl
    rw [er] at hR
    refine vc_goS hG 60 [116, 61] (B := bX10_graph) rfl ?_
    refine And.intro rfl ?_
    refine m_isWell hG (fun y => ?_) (fun y => by omega)
    refine And.intro (fun y => absurd y (by decide)) (fun y => ?_)
    refine And.intro rfl (And.intro (fun y => ?_) (fun y => ?_))
    · have te := (tk_end tv).1 y
      rw [cit_y te] at hR
      refine And.intro rfl ?_
      refine m_isWell hG (fun y => ?_) (fun y => by omega)
      refine And.intro (fun y => ?_) (fun y => absurd y (by decide))
      exact h1 M1 k G hR.symm hw.2.2.2.1 hw.2.2.2.2.1 hf
    · have te : ¬ tK (tok T n b) = -1 := fun x => y ((tk_end tv).2 x)
      rw [cit_n te] at hR
      have tl := tk_let tv
      -- it does not begin
      have fail : rdItem T n (tok T n b) k G = .inl (tS (tok T n b)) → wp Γ mX10_graph 61 [some (VR 187), some (VI (k : Nat))] [VI 0, VR 187] 0 0 (W0 L) M1 Q := by
        intro e
        rw [e] at hR
        refine vc_goS hG 60 [77] (B := bX10_graph) rfl ?_
        refine And.intro rfl ?_
        refine m_takes0 hG w7 ?_
        have ft := hw.ft
        have ft7 := ft.2.1
        refine And.intro rfl ?_
        refine m_isWell hG (fun y => by omega) (fun y => ?_)
        refine And.intro (fun y => ?_) (fun y => absurd rfl y)
        exact mg_fault77 hG ft (by omega) (h0 _ _ hR.symm (hf.t (frD_7 _ _)))
      -- behind the item
      have goY : ∀ (M3 : MM) (b' : Nat) (G' : GT) (wI : Int), rdItem T n (tok T n b) k G = rdSemi T n b' G' → b' ≤ n → RW M3 n T (tok T n b') G' → frD M M3 → wp Γ mX10_graph 77 [some (VR 187), some (VI (k : Nat)), some (VI wI)] [] 0 0 (W0 L) M3 Q := by
        intro M3 b' G' wI e hb' hw3 f3
        have ts := tk_stop hw3.2.2.1.2.2
        refine vc_go hG 60 (B := bX10_graph) rfl ?_
        refine And.intro rfl ?_
        refine And.intro (fun y => ?_) (fun y => ?_)
        · have e2 : rdSemi T n b' G' = _ := cit_n (fun x => y (ts.2 x))
          rw [e.trans e2] at hR
          refine And.intro rfl ?_
          refine m_takes0 hG hw3.2.1 ?_
          have ft := hw3.ft
          refine And.intro (by omega) ?_
          refine wp_pre [some (VR 187), some (VI _)] [some (VI wI)] ?_
          exact mg_fault hG ft (h0 _ _ hR.symm (f3.t (frD_7 _ _)))
        · have e2 : rdSemi T n b' G' = _ := cit_y (ts.1 y)
          have is := item_s hw.q (e.trans e2)
          rw [e.trans e2] at hR
          refine And.intro rfl ?_
          refine m_takes1 hG hw3 (fun M4 hw4 f4 g4 => ?_)
          refine And.intro (by omega) ?_
          refine wp_pre [some (VR 187), some (VI ((k + 1 : Nat) : Int))] [some (VI wI)] ?_
          exact ih (k + 1) (tB (tok T n b')) G' M4 (by omega) (by have := is.1; have := (tok_l (T := T) hbn).2.2; show k + 1 ≤ tB (tok T n b'); omega) hw3.q hw4 (f3.t f4) hR
      -- it begins
      have go : ∀ (wI : Int), (tK (tok T n b) = 108 ∨ tK (tok T n b) = 119 ∨ tK (tok T n b) = 97) → wI = tK (tok T n b) → (tK (tok T n b) = 108 → k = 0) → (tK (tok T n b) = 119 → qm G < 6) → (tK (tok T n b) = 97 → qn G < 12) → M1 187 6 = wI → wp Γ mX10_graph 61 [some (VR 187), some (VI (k : Nat))] [VI 1, VR 187] 0 0 (W0 L) M1 Q := by
        intro wI hl hwI c1 c2 c3 hv
        refine vc_goS hG 60 [77] (B := bX10_graph) rfl ?_
        refine And.intro rfl ?_
        refine m_takes1 hG hw (fun M2 hw2 f2 g2 => ?_)
        have u7 := hw2.2.1
        refine And.intro rfl ?_
        refine m_isWell hG (fun y => ?_) (fun y => by omega)
        refine And.intro (fun y => absurd y (by decide)) (fun y => ?_)
        refine And.intro rfl ?_
        rw [hv, hwI]
        have goN : ∀ (M3 : MM) (f : Nat), rdItem T n (tok T n b) k G = .inl f → RF M3 n T f → frD M2 M3 → wp Γ mX10_graph 77 [some (VR 187), some (VI (k : Nat)), some (VI (tK (tok T n b)))] [] 0 0 (W0 L) M3 Q := by
          intro M3 f e ft f3
          rw [e] at hR
          exact mg_fault77 hG ft (by omega) (h0 _ _ hR.symm ((hf.t f2).t f3))
        rcases hl with q | q | q
        · have e : rdItem T n (tok T n b) k G = _ := (cit_y q).trans (cit_y (c1 q))
          rw [q] at goN ⊢
          exact ri108 hG hw2 (fun M3 b' G' z1 z2 z3 z4 => goY M3 b' G' _ (e.trans z1) z2 z3 ((hf.t f2).t z4)) (fun M3 f z1 z2 z3 => goN M3 f (e.trans z1) z2 z3)
        · have e : rdItem T n (tok T n b) k G = _ := (cit_n (by omega)).trans ((cit_y q).trans (cit_y (c2 q)))
          rw [q] at goN ⊢
          exact ri119 hG hw2 (c2 q) (fun M3 b' G' z1 z2 z3 z4 => goY M3 b' G' _ (e.trans z1) z2 z3 ((hf.t f2).t z4)) (fun M3 f z1 z2 z3 => goN M3 f (e.trans z1) z2 z3)
        · have e : rdItem T n (tok T n b) k G = _ := (cit_n (by omega)).trans ((cit_n (by omega)).trans ((cit_y q).trans (cit_y (c3 q))))
          rw [q] at goN ⊢
          exact ri97 hG hw2 (c3 q) (fun M3 b' G' z1 z2 z3 z4 => goY M3 b' G' _ (e.trans z1) z2 z3 ((hf.t f2).t z4)) (fun M3 f z1 z2 z3 => goN M3 f (e.trans z1) z2 z3)
      refine And.intro rfl (And.intro (fun y1 => fail ?_) (fun y1 => ?_))
      · have q : ¬ (tK (tok T n b) = 108 ∨ tK (tok T n b) = 119 ∨ tK (tok T n b) = 97) := fun x => y1 (tl.1.2 x)
        exact (cit_n (fun x => q (Or.inl x))).trans ((cit_n (fun x => q (Or.inr (Or.inl x)))).trans (cit_n (fun x => q (Or.inr (Or.inr x)))))
      · have q := tl.1.1 y1
        have v := tl.2 (by omega)
        refine And.intro rfl ?_
        refine m_mayBegin hG hw.2.2.2.1 rfl (fun z => ?_) (fun z => ?_)
        · refine And.intro (fun y => absurd y (by decide)) (fun y => ?_)
          exact go _ q rfl (fun x => by omega) (fun x => by omega) (fun x => by omega) v
        · refine And.intro (fun y => fail ?_) (fun y => absurd rfl y)
          rcases q with q | q | q
          · exact (cit_y q).trans (cit_n (by omega))
          · exact (cit_n (by omega)).trans ((cit_y q).trans (cit_n (by omega)))
          · exact (cit_n (by omega)).trans ((cit_n (by omega)).trans ((cit_y q).trans (cit_n (by omega))))
theorem frD.m {M M' : MM} (h : frD M M') : frM M M' := ⟨fun a ha => h.1 a (by omega) (by omega) (by omega) (by omega), h.2.2⟩
theorem MR.dr {M M' : MM} {S : ST} (hc : MR M S) (h : frD M M') : MR M' S := hc.keep (fun j hj => h.2.1 j (by omega)) (fun a ha => h.1 a (by omega) (by omega) (by omega) (by omega))
theorem y_graph (hG : GOK Γ) {S : ST} (hc : MR M S) (hob : OB M) (h : OutM Q L M (fGraph S)) : wp Γ mX10_graph 0 [some (VR 187)] [] 0 0 (W0 L) M Q := by
  have hc0 := hc.th
  have f0 := frM_th M
  have ob0 := f0.2 hob
  refine vc_go hG 60 (B := bX10_graph) rfl ?_
  refine And.intro rfl ?_
  refine And.intro rfl ?_
  refine And.intro rfl ?_
  refine And.intro rfl ?_
  refine m_begins hG (fun M1 r1 g1 => ?_)
  have f1 : frD (upM M 187 0 0) M1 := by
    refine ⟨fun a a1 a2 a3 a4 => by rw [g1 a a2, upM_ne a1, upM_ne a1], fun j hj => by rw [g1 187 (by decide), upM_k (by omega), upM_k (by omega)], fun z => ((z.up3 (by decide) (by decide)).up3 (by decide) (by decide)).keep (g1 197 (by decide)) (g1 198 (by decide))⟩
  have e3 : M1 187 3 = ((0 : Nat) : Int) := by rw [g1 187 (by decide), upM_eq]; rfl
  have e7 : M1 187 7 = -1 := by rw [g1 187 (by decide), upM_k (by decide), upM_eq]
  have hc1 := hc0.dr f1
  have tb := tok_b (T := sT S) (Nat.zero_le (sn S))
  refine And.intro rfl ?_
  refine m_advances hG hc1.2.2.1 (b := 0) (Nat.zero_le _) e3 (fun M2 t2 f2 => ?_)
  have ef : fGraph S = (match rdAll (sT S) (sn S) 80 0 (tok (sT S) (sn S) 0) E6 with
    | .inl f => (-10 - (f : Int), S)
    | .inr kg => ((kg.1 : Int), (kg.2, (0, sT S), (0, sH S), (fun _ => 0, sI S), (0, sM S, sR S)))) := rfl
  refine l_mgraph (M := upM M 187 0 0) hG _ (fun M3 k G' hR r3 w3 f3 => ?_) (fun M3 f hR f3 => ?_) 80 0 0 E6 M2 rfl (Nat.le_refl _) (Nat.zero_le _) ⟨hc1.2.2.1.fr f2, by rw [f2.2 7 (by decide)]; exact e7, t2, r1.keep (f2.1 189 (by decide)), E6_wf, f2.d.2.2 (f1.2.2 ob0), Nat.le_trans tb.2.1 tb.2.2.1, tb.2.2.1⟩ (f1.t f2.d) rfl
  · rw [hR] at ef
    refine vc_go hG 60 (B := bX10_graph) rfl ?_
    refine And.intro rfl ?_
    refine m_settles hG r3 w3 (T := sT S) (H := sH S) (I := sI S) (m := sM S) (r := sR S) (fun M4 c4 f4 => ?_)
    exact h.go ef rfl c4 ((f0.t f3.m).t f4)
  · rw [hR] at ef
    exact h.go ef rfl (hc0.dr f3) (f0.t f3.m)
end Mod
