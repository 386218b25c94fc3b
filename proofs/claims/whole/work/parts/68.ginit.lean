/-! ===== constructors ===== -/
section Init
variable {Γ : GG} {L : Nat} {w : Wd} {M : MM} {Q : QT} {g n j d i : Nat}
theorem c_gInit2 (hG : GOK Γ) (hg : GrL w g) (hz : ∀ t, t ≤ 9 → ∀ k, M (g + t) k = 0) (h : ∀ M', GrR M' g E6 → (∀ a, a < g → M' a = M a) → Q none w M') : wp Γ mX1_init 24 [some (VR g)] [] 9 104 w M Q := by
  refine vc_go hG 80 (B := bX1_init) rfl ?_
  refine And.intro hg.k ?_
  refine And.intro hg.k (Exists.intro _ (And.intro hg.o ?_))
  refine And.intro (Or.inl hg.ok) (Exists.intro 0 (And.intro rfl (And.intro (by rw [hg.ol]; decide) (Exists.intro _ (And.intro hg.r0 ?_)))))
  refine And.intro hg.k0 (Exists.intro 0 (And.intro rfl (And.intro (by rw [hg.l0]; decide) ?_)))
  refine And.intro hg.k (Exists.intro _ (And.intro hg.o ?_))
  refine And.intro (Or.inl hg.ok) (Exists.intro 2 (And.intro rfl (And.intro (by rw [hg.ol]; decide) (Exists.intro _ (And.intro hg.r2 ?_)))))
  refine And.intro hg.k2 (Exists.intro 0 (And.intro rfl (And.intro (by rw [hg.l2]; decide) ?_)))
  refine And.intro hg.k (Exists.intro _ (And.intro hg.o ?_))
  refine And.intro (Or.inl hg.ok) (Exists.intro 3 (And.intro rfl (And.intro (by rw [hg.ol]; decide) (Exists.intro _ (And.intro hg.r3 ?_)))))
  refine And.intro hg.k3 (Exists.intro 0 (And.intro rfl (And.intro (by rw [hg.l3]; decide) ?_)))
  refine And.intro hg.k (Exists.intro _ (And.intro hg.o ?_))
  refine And.intro (Or.inl hg.ok) (Exists.intro 4 (And.intro rfl (And.intro (by rw [hg.ol]; decide) (Exists.intro _ (And.intro hg.r4 ?_)))))
  refine And.intro hg.k4 (Exists.intro 0 (And.intro rfl (And.intro (by rw [hg.l4]; decide) ?_)))
  refine And.intro hg.k (Exists.intro _ (And.intro hg.o ?_))
  refine And.intro (Or.inl hg.ok) (Exists.intro 5 (And.intro rfl (And.intro (by rw [hg.ol]; decide) (Exists.intro _ (And.intro hg.r5 ?_)))))
  refine And.intro hg.k5 (Exists.intro 0 (And.intro rfl (And.intro (by rw [hg.l5]; decide) ?_)))
  have z0 := hz 0 (by decide)
  have z2 := hz 2 (by decide)
  have z3 := hz 3 (by decide)
  have z8 := hz 8 (by decide)
  refine h _ ⟨?_, ?_, ?_, fun k hk => ?_, ⟨?_, ?_, ?_, ?_, ?_⟩, fun k hk => absurd hk (Nat.not_lt_zero k), fun k hk => absurd hk (Nat.not_lt_zero k)⟩ (fun a ha => ?_)
  · rw [upM_a (by omega), upM_a (by omega), upM_a (by omega), upM_a (by omega), upM_a (by omega), upM_k (by decide)]; exact z0 2
  · rw [upM_a (by omega), upM_a (by omega), upM_a (by omega), upM_a (by omega), upM_a (by omega), upM_k (by decide)]; exact z0 3
  · rw [upM_a (by omega), upM_a (by omega), upM_a (by omega), upM_a (by omega), upM_a (by omega), upM_eq]; rfl
  · have e : k = 0 := Nat.le_zero.mp hk
    subst e
    refine ⟨?_, ?_⟩
    · rw [upM_a (by omega), upM_a (by omega), upM_a (by omega), upM_a (by omega), upM_eq]; rfl
    · rw [upM_a (by omega), upM_a (by omega), upM_a (by omega), upM_a (by omega), upM_a (by omega), upM_a (by omega)]; exact z3 0
  · rw [upM_a (by omega), upM_a (by omega), upM_a (by omega), upM_eq]
  · rw [upM_a (by omega), upM_a (by omega), upM_eq]
  · rw [upM_a (by omega), upM_eq]
  · rw [upM_eq]
  · rw [upM_a (by omega), upM_a (by omega), upM_a (by omega), upM_a (by omega), upM_a (by omega), upM_a (by omega)]; exact z8 0
  · rw [upM_ne (by omega), upM_ne (by omega), upM_ne (by omega), upM_ne (by omega), upM_ne (by omega), upM_ne (by omega)]
theorem c_gInit1 (hG : GOK Γ) (hn : w.2.2.2 = g) (hk : w.1 g = 5) (hz : ∀ k, M g k = 0) (h : ∀ M', GrR M' g E6 → (∀ a, a < g → M' a = M a) → Q none (grW w g) M') : wp Γ mX1_init 0 [some (VR g)] [] 0 0 w M Q := by
  have gl := grW_GrL hn hk
  refine vc_goS hG 80 [24] (B := bX1_init) rfl ?_
  refine And.intro ⟨⟨by decide, by decide⟩, by decide, by decide⟩ ?_
  refine And.intro ?_ ?_
  · show (if g = w.2.2.2 + 1 then 2 else if w.2.2.2 + 1 < g ∧ g ≤ w.2.2.2 + 1 + 7 then 0 else w.1 g) = 4 + 1
    rw [if_neg (by omega), if_neg (by omega)]; exact hk
  refine And.intro ⟨by decide, by decide⟩ ?_
  refine And.intro ?_ ?_
  · show (if g = w.2.2.2 + 1 + 7 + 1 then 0 else if g = w.2.2.2 + 1 then 2 else if w.2.2.2 + 1 < g ∧ g ≤ w.2.2.2 + 1 + 7 then 0 else w.1 g) = 4 + 1
    rw [if_neg (by omega), if_neg (by omega), if_neg (by omega)]; exact hk
  refine c_gInit2 hG gl (fun t ht k => ?_) (fun M' h1 h2 => h M' h1 (fun a ha => ?_))
  · show (if g + t = w.2.2.2 + 1 + 7 + 1 then 0 else if w.2.2.2 < g + t ∧ g + t ≤ w.2.2.2 + 1 + 7 then 0 else M (g + t) k) = 0
    by_cases c : g + t = w.2.2.2 + 1 + 7 + 1
    · rw [if_pos c]
    · rw [if_neg c]
      by_cases c2 : w.2.2.2 < g + t ∧ g + t ≤ w.2.2.2 + 1 + 7
      · rw [if_pos c2]
      · rw [if_neg c2]
        have e : t = 0 := by omega
        subst e
        exact hz k
  · rw [h2 a ha]
    refine funext (fun k => ?_)
    show (if a = w.2.2.2 + 1 + 7 + 1 then 0 else if w.2.2.2 < a ∧ a ≤ w.2.2.2 + 1 + 7 then 0 else M a k) = M a k
    rw [if_neg (by omega), if_neg (by omega)]
/-- 'new Graph()' -/
theorem c_gInit (hG : GOK Γ) (hg : WG L (n + 1)) (hd : d ≤ n) (h1 : 1 ≤ n) (h : ∀ M', GrR M' (n + 1) E6 → (∀ a, a < n + 1 → M' a = M a) → Q none (CU L (n + 10) j d i) M') : wp Γ mX1_init 0 [some (VR (n + 1))] [] 0 0 (nwW (CU L n j d i) 5 0) (zrM M (n + 1)) Q := by
  refine c_gInit1 hG rfl ?_ (fun k => ?_) (fun M' g1 g2 => ?_)
  · show (if n + 1 = n + 1 then 5 else _) = 5
    rw [if_pos rfl]
  · show (if n + 1 = n + 1 then 0 else _) = (0 : Int)
    rw [if_pos rfl]
  · rw [CU_gr hg hd h1]
    refine h M' g1 (fun a ha => ?_)
    rw [g2 a ha]
    refine funext (fun k => ?_)
    show (if a = n + 1 then 0 else M a k) = M a k
    rw [if_neg (by omega)]
/-- what the last world has of a Near -/
def WN (L a : Nat) : Prop := NrL (W0 L) a ∧ (W0 L).2.1 a = 0 ∧ (∀ k, 2 ≤ k → (W0 L).2.2.1 a k = none) ∧ ∀ t, 1 ≤ t → t ≤ 2 → ∀ k, (W0 L).2.2.1 (a + t) k = none
theorem CU_nr {L n j d i : Nat} (hg : WN L (n + 1)) (hd : d ≤ n) (h1 : 1 ≤ n) : rfW (nwW (rfW (nwW (nwW (CU L n j d i) 8 0) 0 512) (n + 1) 0 (some (n + 1 + 1))) 0 512) (n + 1) 1 (some (n + 1 + 1 + 1)) = CU L (n + 3) j d i := by
  obtain ⟨g1, g2, g3, g5⟩ := hg
  rw [show nwW (CU L n j d i) 8 0 = TW L (n + 1) _ from TW_nw g1.k g2, TW_nw g1.k1 g1.l1]
  rw [show rfW (TW L (n + 1 + 1) (upN (upN (cRf L n j d i) (n + 1) fun x => none) (n + 1 + 1) fun x => none)) (n + 1) 0 (some (n + 1 + 1)) = TW L (n + 1 + 1) (upR (upN (upN (cRf L n j d i) (n + 1) fun x => none) (n + 1 + 1) fun x => none) (n + 1) 0 (some (n + 1 + 1))) from rfl, TW_nw g1.k2 g1.l2]
  refine TW_R (fun a k => ?_)
  show (if a = n + 1 ∧ k = 1 then some (n + 1 + 1 + 1) else (if a = n + 1 + 1 + 1 then (fun _ => none) else (fun k' => if a = n + 1 ∧ k' = 0 then some (n + 1 + 1) else (if a = n + 1 + 1 then (fun _ => none) else (if a = n + 1 then (fun _ => none) else cRf L n j d i a)) k')) k) = cRf L (n + 3) j d i a k
  by_cases c : n + 1 ≤ a ∧ a ≤ n + 3
  · rw [show cRf L (n + 3) j d i a k = (W0 L).2.2.1 a k by unfold cRf; rw [if_neg (by omega), if_neg (by omega), if_neg (by omega)]]
    by_cases c0 : a = n + 1
    · subst c0
      by_cases k1 : k = 1
      · subst k1; rw [if_pos ⟨rfl, rfl⟩]; exact g1.r1.symm
      · rw [if_neg (fun z => k1 z.2), if_neg (by omega)]
        by_cases k0 : k = 0
        · subst k0; refine (if_pos ⟨rfl, rfl⟩).trans g1.r0.symm
        · refine (if_neg (fun z => k0 z.2)).trans ?_
          rw [if_neg (by omega), if_pos rfl, g3 k (by omega)]
    · rw [if_neg (fun z => c0 z.1)]
      have e5 := g5 (a - (n + 1)) (by omega) (by omega) k
      rw [show n + 1 + (a - (n + 1)) = a by omega] at e5
      rw [e5]
      by_cases c9 : a = n + 1 + 1 + 1
      · rw [if_pos c9]
      · rw [if_neg c9]
        refine (if_neg (fun z => c0 z.1)).trans ?_
        rw [if_pos (by omega)]
  · rw [if_neg (by omega), if_neg (by omega)]
    refine (if_neg (by omega)).trans ?_
    rw [if_neg (by omega), if_neg (by omega)]
    unfold cRf
    repeat' split
    all_goals first | rfl | omega
/-- 'new Near()' -/
theorem c_nInit (hG : GOK Γ) (hg : WN L (n + 1)) (hd : d ≤ n) (h1 : 1 ≤ n) (h : ∀ M', (∀ a, a < n + 1 → M' a = M a) → Q none (CU L (n + 3) j d i) M') : wp Γ mX4_init 0 [some (VR (n + 1))] [] 0 0 (nwW (CU L n j d i) 8 0) (zrM M (n + 1)) Q := by
  refine vc_go hG 80 (B := bX4_init) rfl ?_
  refine And.intro ⟨by decide, by decide⟩ ?_
  refine And.intro ?_ ?_
  · show (if n + 1 = n + 1 + 1 then 0 else if n + 1 = n + 1 then 8 else _) = 4 + 4
    rw [if_neg (by omega), if_pos rfl]
  refine And.intro ⟨by decide, by decide⟩ ?_
  refine And.intro ?_ ?_
  · show (if n + 1 = n + 1 + 1 + 1 then 0 else if n + 1 = n + 1 + 1 then 0 else if n + 1 = n + 1 then 8 else _) = 4 + 4
    rw [if_neg (by omega), if_neg (by omega), if_pos rfl]
  have e := CU_nr (j := j) (i := i) hg hd h1
  have q := h (zrM (zrM (zrM M (n + 1)) (n + 1 + 1)) (n + 1 + 1 + 1)) (fun a ha => funext (fun k => by
    show (if a = n + 1 + 1 + 1 then 0 else if a = n + 1 + 1 then 0 else if a = n + 1 then 0 else M a k) = M a k
    rw [if_neg (by omega), if_neg (by omega), if_neg (by omega)]))
  rw [← e] at q
  exact q
end Init
