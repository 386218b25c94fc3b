/-! ===== least: the model's and the class's numbers are the same ===== -/
theorem byW_ex {G : GT} {v : Nat} : ∀ (N p q s f : Nat), cdw p q s f ≤ N → XG G (qn G + 1) p q s f → mkV G p q s f = v → ∃ p q s f, byW G v p q s f
  | 0, p, q, s, f, hN, hx, hm => ⟨p, q, s, f, hx, hm, fun p' q' s' f' _ _ => by omega⟩
  | N + 1, p, q, s, f, hN, hx, hm => by
    by_cases c : ∃ p' q' s' f', XG G (qn G + 1) p' q' s' f' ∧ mkV G p' q' s' f' = v ∧ cdw p' q' s' f' < cdw p q s f
    · obtain ⟨p', q', s', f', c1, c2, c3⟩ := c
      exact byW_ex N p' q' s' f' (by omega) c1 c2
    · refine ⟨p, q, s, f, hx, hm, fun p' q' s' f' x1 x2 => ?_⟩
      by_cases d : cdw p' q' s' f' < cdw p q s f
      · exact absurd ⟨p', q', s', f', x1, x2, d⟩ c
      · omega
theorem isNr_iff {G : GT} {v : Nat} : isNr G v ↔ (¬ isTh G v ∧ ∃ p q s f, XG G (qn G + 1) p q s f ∧ mkV G p q s f = v) := by
  constructor
  · rintro ⟨-, h2, p, q, s, f, h3⟩
    exact ⟨h2, p, q, s, f, h3.1, h3.2.1⟩
  · rintro ⟨h2, p, q, s, f, h3, h4⟩
    obtain ⟨p', q', s', f', h5⟩ := byW_ex _ p q s f (Nat.le_refl _) h3 h4
    exact ⟨byW_odd h5, h2, p', q', s', f', h5⟩
theorem isFar_iff {G : GT} {v : Nat} : isFar G v ↔ (¬ isTh G v ∧ ¬ isNr G v) := by
  constructor
  · rintro ⟨h1, h2⟩
    refine ⟨h1, fun z => ?_⟩
    obtain ⟨-, p, q, s, f, z1, z2⟩ := isNr_iff.1 z
    exact h2 p q s f z1 z2
  · rintro ⟨h1, h2⟩
    exact ⟨h1, fun p q s f z1 z2 => h2 (isNr_iff.2 ⟨h1, p, q, s, f, z1, z2⟩)⟩
theorem lst_ex {P : Nat → Prop} : ∀ (N e : Nat), e ≤ N → P e → ∃ t : Nat, isLst P t
  | 0, e, hN, h => ⟨e, Or.inr ⟨e, rfl, h, fun e' he => by omega⟩⟩
  | N + 1, e, hN, h => by
    by_cases c : ∃ e', e' < e ∧ P e'
    · obtain ⟨e', c1, c2⟩ := c
      exact lst_ex N e' (by omega) c2
    · exact ⟨e, Or.inr ⟨e, rfl, h, fun e' he z => c ⟨e', he, z⟩⟩⟩
theorem hasT_tw {G : GT} (hw : WFG G) {v : Nat} (hv : v % 2 = 1 ∧ v ≤ 1023) : hasT G v ↔ ((¬ isTh G v ∧ ¬ isNr G v) ∧ ∃ e, twM G v e) := by
  constructor
  · rintro ⟨t, h1 | ⟨e, h1, h2, -⟩⟩
    · omega
    · exact ⟨isFar_iff.1 h2.1, e, tw_bwd hw hv h2.2⟩
  · rintro ⟨h1, e, h2⟩
    exact lst_ex e e (Nat.le_refl _) ⟨isFar_iff.2 h1, tw_fwd hw hv h1 h2⟩
theorem BL_mk {V D : Nat → Nat} {lim m v : Nat} (hD : ∀ k, k ≤ m → D k + 1 ≤ lim) : BL V D lim m v ↔ ∃ k, k ≤ m ∧ MK (V m) (V k) v := by
  constructor
  · intro h
    obtain ⟨k, s, f, h1, h2, h3, h4, h5⟩ := BL_red h
    exact ⟨k, h1, s, f, h2, h3, h4.1, h4.2.1, h5⟩
  · rintro ⟨k, h1, s, f, h2, h3, h4, h5, h6⟩
    have d1 := hD m (Nat.le_refl _)
    have d2 := hD k h1
    exact ⟨k, s, f, h1, h2, h3, Or.inl ⟨⟨h4, h5, by omega⟩, h6⟩⟩
-- one alone
theorem th9 {v : Nat} : isTh E9 v ↔ v = 1 := by
  constructor
  · rintro ⟨k, -, h⟩
    exact h.symm
  · intro h
    exact ⟨0, by decide, h.symm⟩
theorem nr9 {v : Nat} : isNr E9 v ↔ (v ≠ 1 ∧ MK 1 1 v) := by
  rw [isNr_iff, th9]
  constructor
  · rintro ⟨h1, p, q, s, f, ⟨-, -, h4, h5, h6⟩, h7⟩
    exact ⟨h1, s, f, h4, h5, h6.1, h6.2.1, h7⟩
  · rintro ⟨h1, s, f, h4, h5, h6, h7, h8⟩
    exact ⟨h1, 0, 0, s, f, ⟨Nat.le_refl _, by decide, h4, h5, h6, h7, by decide⟩, h8⟩
theorem tw9 {v e : Nat} : twM E9 v e ↔ (isNr E9 e ∧ (MK e 1 v ∨ MK e e v)) := by
  have key : ∀ p q, BL (upN (qV E9) (qn E9 + 1) e) (upN (qD E9) (qn E9 + 1) (dpt E9 p q)) (qL E9) (qn E9 + 1) v ↔ (MK e 1 v ∨ MK e e v) := by
    intro p q
    rw [BL_mk (fun k hk => ?_)]
    · constructor
      · rintro ⟨k, h1, h2⟩
        have h1 : k ≤ 1 := h1
        have c : k = 0 ∨ k = 1 := by omega
        rcases c with c | c
        · subst c; exact Or.inl h2
        · subst c; exact Or.inr h2
      · rintro (h | h)
        · exact ⟨0, by decide, h⟩
        · exact ⟨1, by decide, h⟩
    · have hk : k ≤ 1 := hk
      have c : k = 0 ∨ k = 1 := by omega
      rcases c with c | c
      · subst c; show 0 + 1 ≤ 9; decide
      · subst c; show (max 0 0 + 1) + 1 ≤ 9; decide
  constructor
  · rintro ⟨h1, p, q, s, f, -, h2⟩
    exact ⟨h1, (key p q).1 h2⟩
  · rintro ⟨h1, h2⟩
    obtain ⟨p, q, s, f, h3⟩ := h1.2.2
    exact ⟨h1, p, q, s, f, h3, (key p q).2 h2⟩
-- one and b
section One
variable {b p q s f : Nat}
theorem g1_p (h : byW E9 b p q s f) : p = 0 ∧ q = 0 := by
  obtain ⟨⟨h1, h2, -⟩, -⟩ := h
  have h2 : q < 1 := h2
  omega
theorem g1_V (h : byW E9 b p q s f) : qV (addG E9 p s q f) 0 = 1 ∧ qV (addG E9 p s q f) 1 = b ∧ qD (addG E9 p s q f) 0 = 0 ∧ qD (addG E9 p s q f) 1 = 1 ∧ qL (addG E9 p s q f) = 9 := ⟨rfl, h.2.1, rfl, rfl, rfl⟩
theorem g1_th (h : byW E9 b p q s f) {v : Nat} : isTh (addG E9 p s q f) v ↔ (v = 1 ∨ v = b) := by
  obtain ⟨v0, v1, -⟩ := g1_V h
  constructor
  · rintro ⟨k, k1, k2⟩
    have k1 : k < 2 := k1
    have c : k = 0 ∨ k = 1 := by omega
    rcases c with c | c
    · subst c; rw [v0] at k2; exact Or.inl k2.symm
    · subst c; rw [v1] at k2; exact Or.inr k2.symm
  · rintro (c | c)
    · exact ⟨0, by show 0 < 2; decide, by rw [v0]; exact c.symm⟩
    · exact ⟨1, by show 1 < 2; decide, by rw [v1]; exact c.symm⟩
theorem g1_nr (h : byW E9 b p q s f) {v : Nat} : isNr (addG E9 p s q f) v ↔ ((v ≠ 1 ∧ v ≠ b) ∧ mkAll b v) := by
  obtain ⟨v0, v1, d0, d1, l9⟩ := g1_V h
  have th := fun v => g1_th h (v := v)
  have hn : qn (addG E9 p s q f) = 1 := rfl
  rw [isNr_iff, th v, hn]
  generalize addG E9 p s q f = G at *
  have mk : ∀ p' q' s' f', XG G (1 + 1) p' q' s' f' ∧ mkV G p' q' s' f' = v → MK (qV G p') (qV G q') v := by
    rintro p' q' s' f' ⟨⟨-, -, x3, x4, x5⟩, x6⟩
    exact ⟨s', f', x3, x4, x5.1, x5.2.1, x6⟩
  have km : ∀ p' q', p' ≤ q' → q' < 2 → max (qD G p') (qD G q') + 1 ≤ 9 → MK (qV G p') (qV G q') v → ∃ p q s f, XG G (1 + 1) p q s f ∧ mkV G p q s f = v := by
    rintro p' q' x1 x2 x3 ⟨s', f', y1, y2, y3, y4, y5⟩
    exact ⟨p', q', s', f', ⟨x1, x2, y1, y2, y3, y4, by rw [l9]; exact x3⟩, y5⟩
  constructor
  · rintro ⟨h1, p', q', s', f', h2⟩
    refine ⟨⟨fun c => h1 (Or.inl c), fun c => h1 (Or.inr c)⟩, ?_⟩
    have h3 := mk p' q' s' f' h2
    obtain ⟨⟨x1, x2, -⟩, -⟩ := h2
    have c : (p' = 0 ∧ q' = 0) ∨ (p' = 0 ∧ q' = 1) ∨ (p' = 1 ∧ q' = 1) := by omega
    rcases c with ⟨c1, c2⟩ | ⟨c1, c2⟩ | ⟨c1, c2⟩
    · subst c1 c2; rw [v0] at h3; exact Or.inl h3
    · subst c1 c2; rw [v0, v1] at h3; exact Or.inr (Or.inl h3)
    · subst c1 c2; rw [v1] at h3; exact Or.inr (Or.inr (Or.inr h3))
  · rintro ⟨⟨h1, h2⟩, h3⟩
    refine ⟨fun c => c.elim h1 h2, ?_⟩
    rcases h3 with h3 | h3 | h3 | h3
    · exact km 0 0 (by decide) (by decide) (by rw [d0]; decide) (by rw [v0]; exact h3)
    · exact km 0 1 (by decide) (by decide) (by rw [d0, d1]; decide) (by rw [v0, v1]; exact h3)
    · exact km 0 1 (by decide) (by decide) (by rw [d0, d1]; decide) (by rw [v0, v1]; exact MK_mir h3)
    · exact km 1 1 (by decide) (by decide) (by rw [d1]; decide) (by rw [v1]; exact h3)
theorem g1_tw (h : byW E9 b p q s f) {v e : Nat} : twM (addG E9 p s q f) v e ↔ (isNr (addG E9 p s q f) e ∧ (MK e 1 v ∨ MK e b v ∨ MK e e v)) := by
  obtain ⟨v0, v1, d0, d1, l9⟩ := g1_V h
  have hn : qn (addG E9 p s q f) = 1 := rfl
  have hw : WFG (addG E9 p s q f) := byW_wf E9_wf (by decide) h
  generalize addG E9 p s q f = G at *
  have key : ∀ p' q', p' ≤ 1 → q' ≤ 1 → (BL (upN (qV G) (qn G + 1) e) (upN (qD G) (qn G + 1) (dpt G p' q')) (qL G) (qn G + 1) v ↔ (MK e 1 v ∨ MK e b v ∨ MK e e v)) := by
    intro p' q' hp hq
    have dd : ∀ k, k ≤ 1 → qD G k ≤ 1 := fun k hk => by
      have c : k = 0 ∨ k = 1 := by omega
      rcases c with c | c
      · subst c; rw [d0]; decide
      · subst c; rw [d1]; decide
    have e1 := dd p' hp
    have e2 := dd q' hq
    rw [hn, BL_mk (fun k hk => ?_)]
    · rw [upN_eq]
      constructor
      · rintro ⟨k, h1, h2⟩
        have c : k = 0 ∨ k = 1 ∨ k = 2 := by omega
        rcases c with c | c | c
        · subst c; rw [upN_ne (by decide), v0] at h2; exact Or.inl h2
        · subst c; rw [upN_ne (by decide), v1] at h2; exact Or.inr (Or.inl h2)
        · subst c; rw [upN_eq] at h2; exact Or.inr (Or.inr h2)
      · rintro (h2 | h2 | h2)
        · exact ⟨0, by decide, by rw [upN_ne (by decide), v0]; exact h2⟩
        · exact ⟨1, by decide, by rw [upN_ne (by decide), v1]; exact h2⟩
        · exact ⟨2, by decide, by rw [upN_eq]; exact h2⟩
    · rw [l9]
      by_cases c : k = 1 + 1
      · subst c; rw [upN_eq]; show (max (qD G p') (qD G q') + 1) + 1 ≤ 9; omega
      · rw [upN_ne c]; have := dd k (by omega); omega
  constructor
  · rintro ⟨h1, p', q', s', f', h3, h2⟩
    have bb := byW_b hw h3
    rw [hn] at bb
    exact ⟨h1, (key p' q' bb.1 bb.2.1).1 h2⟩
  · rintro ⟨h1, h2⟩
    obtain ⟨p', q', s', f', h3⟩ := h1.2.2
    have bb := byW_b hw h3
    rw [hn] at bb
    exact ⟨h1, p', q', s', f', h3, (key p' q' bb.1 bb.2.1).2 h2⟩
end One
theorem few_2 {t : Nat} (ht : t % 2 = 1 ∧ t ≤ 1023) (h1 : t ≠ 1) (h2 : ¬ MK 1 1 t) : hasT E9 t ↔ ∃ b, B1 b ∧ mkAll b t := by
  rw [hasT_tw E9_wf ht]
  constructor
  · rintro ⟨-, e, h3⟩
    obtain ⟨h4, h5⟩ := tw9.1 h3
    obtain ⟨h6, h7⟩ := nr9.1 h4
    have o := MK_odd h7
    refine ⟨e, ⟨by omega, o.2, h7⟩, ?_⟩
    rcases h5 with h5 | h5
    · exact Or.inr (Or.inr (Or.inl h5))
    · exact Or.inr (Or.inr (Or.inr h5))
  · rintro ⟨b, ⟨b1, b2, b3⟩, h3⟩
    refine ⟨⟨fun z => h1 (th9.1 z), fun z => h2 (nr9.1 z).2⟩, b, tw9.2 ⟨nr9.2 ⟨by omega, b3⟩, ?_⟩⟩
    rcases h3 with h3 | h3 | h3 | h3
    · exact absurd h3 h2
    · exact Or.inl (MK_mir h3)
    · exact Or.inl h3
    · exact Or.inr h3
theorem few_3 {t : Nat} (ht : t % 2 = 1 ∧ t ≤ 1023) (h1 : t ≠ 1) (h2 : ¬ MK 1 1 t) (h0 : ∀ b, B1 b → ¬ mkAll b t) (b : Nat) : by3 t b ↔ ∃ c, T3 t b c := by
  constructor
  · rintro ⟨h3, p, q, s, f, h4, h5⟩
    obtain ⟨h6, h7⟩ := nr9.1 h3
    have o := MK_odd h7
    have hw : WFG (addG E9 p s q f) := byW_wf E9_wf (by decide) h4
    obtain ⟨-, e, h8⟩ := (hasT_tw hw ht).1 h5
    obtain ⟨h9, h10⟩ := (g1_tw h4).1 h8
    obtain ⟨⟨n1, n2⟩, n3⟩ := (g1_nr h4).1 h9
    have oe := mkAll_odd n3
    refine ⟨e, ⟨by omega, o.2, h7⟩, by omega, n3, ?_⟩
    rcases h10 with x | x | x
    · exact Or.inl x
    · exact Or.inr (Or.inr (Or.inr (Or.inl x)))
    · exact Or.inr (Or.inr (Or.inr (Or.inr x)))
  · rintro ⟨c, hb, hc, h4, h5⟩
    have nb : isNr E9 b := nr9.2 ⟨by have := hb.1; omega, hb.2.2⟩
    obtain ⟨p, q, s, f, h6⟩ := nb.2.2
    have hw : WFG (addG E9 p s q f) := byW_wf E9_wf (by decide) h6
    refine ⟨nb, p, q, s, f, h6, (hasT_tw hw ht).2 ⟨⟨fun z => ?_, fun z => ?_⟩, c, (g1_tw h6).2 ⟨(g1_nr h6).2 ⟨⟨by omega, fun z => ?_⟩, h4⟩, ?_⟩⟩⟩
    · rcases (g1_th h6).1 z with z | z
      · exact h1 z
      · subst z; exact h2 hb.2.2
    · exact h0 b hb ((g1_nr h6).1 z).2
    · subst z
      refine h0 c hb ?_
      rcases h5 with x | x | x | x | x
      · exact Or.inr (Or.inr (Or.inl x))
      · exact Or.inr (Or.inl x)
      · exact Or.inr (Or.inr (Or.inr x))
      · exact Or.inr (Or.inr (Or.inr x))
      · exact Or.inr (Or.inr (Or.inr x))
    · rcases h5 with x | x | x | x | x
      · exact Or.inl x
      · exact Or.inl (MK_mir x)
      · exact Or.inr (Or.inl (MK_mir x))
      · exact Or.inr (Or.inl x)
      · exact Or.inr (Or.inr x)
theorem few_eq {t : Nat} (ht : t % 2 = 1 ∧ t ≤ 1023) {r : Int} (h : lsM t r) : isFew t r := by
  rcases h with h | ⟨h1, ⟨h2, h3⟩ | ⟨h2, ⟨h3, h4⟩ | ⟨h3, h4⟩⟩⟩
  · exact Or.inl h
  · exact Or.inr ⟨h1, Or.inl ⟨nr9.2 ⟨h1, h2⟩, h3⟩⟩
  · exact Or.inr ⟨h1, Or.inr ⟨fun z => h2 (nr9.1 z).2, Or.inl ⟨(few_2 ht h1 h2).2 h3, h4⟩⟩⟩
  · refine Or.inr ⟨h1, Or.inr ⟨fun z => h2 (nr9.1 z).2, Or.inr ⟨fun z => ?_, ?_⟩⟩⟩
    · obtain ⟨b, b1, b2⟩ := (few_2 ht h1 h2).1 z
      exact h3 b b1 b2
    · rcases h4 with ⟨⟨b, c, h5⟩, h6⟩ | ⟨h5, h6⟩
      · exact Or.inl ⟨⟨b, (few_3 ht h1 h2 h3 b).2 ⟨c, h5⟩⟩, h6⟩
      · refine Or.inr ⟨fun b z => ?_, h6⟩
        obtain ⟨c, x⟩ := (few_3 ht h1 h2 h3 b).1 z
        exact h5 b c x
section Mod
variable {Γ : GG} {L : Nat} {M : MM} {Q : QT} {S : ST}
theorem y_least (hG : GOK Γ) (hc : MR M S) {v : Int} (h : OutMR Q L M S (leastR v)) : wp Γ mX10_least 0 [some (VR 187), some (VI v)] [] 0 0 (W0 L) M Q := by
  refine y_least0 hG hc (fun z M' h1 h2 => h _ M' (Or.inl ⟨z, rfl⟩) h1 h2) (fun z r M' hr h1 h2 => h r M' (Or.inr ⟨z, ?_⟩) h1 h2)
  have ol := odp_le v.toNat
  exact few_eq ⟨odp_odd (by omega) (by omega), by omega⟩ hr
end Mod
