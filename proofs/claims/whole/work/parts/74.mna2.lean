/-! ===== the rule of 'new int[n][k]' ===== -/
theorem mn_in {w : Wd} {N K i : Nat} (h : i < w.2.2.2) : (mnW w N K).1 (i + 1) = w.1 (i + 1) ∧ (mnW w N K).2.1 (i + 1) = w.2.1 (i + 1) ∧ (mnW w N K).2.2.1 (i + 1) = w.2.2.1 (i + 1) := by
  refine ⟨?_, ?_, ?_⟩
  · show (if i + 1 = w.2.2.2 + 1 then _ else if w.2.2.2 + 1 < i + 1 ∧ i + 1 ≤ w.2.2.2 + 1 + N then _ else _) = _
    rw [if_neg (by omega), if_neg (by omega)]
  · show (if i + 1 = w.2.2.2 + 1 then _ else if w.2.2.2 + 1 < i + 1 ∧ i + 1 ≤ w.2.2.2 + 1 + N then _ else _) = _
    rw [if_neg (by omega), if_neg (by omega)]
  · show (if i + 1 = w.2.2.2 + 1 then _ else if w.2.2.2 + 1 < i + 1 ∧ i + 1 ≤ w.2.2.2 + 1 + N then _ else _) = _
    rw [if_neg (by omega), if_neg (by omega)]
theorem mn_out {w : Wd} {N K : Nat} : (mnW w N K).1 (w.2.2.2 + 1) = 2 ∧ (mnW w N K).2.1 (w.2.2.2 + 1) = N ∧ (mnW w N K).2.2.1 (w.2.2.2 + 1) = (fun j => if j < N then some (w.2.2.2 + 2 + j) else none) := by
  refine ⟨?_, ?_, ?_⟩
  · show (if w.2.2.2 + 1 = w.2.2.2 + 1 then _ else _) = _
    rw [if_pos rfl]
  · show (if w.2.2.2 + 1 = w.2.2.2 + 1 then _ else _) = _
    rw [if_pos rfl]
  · show (if w.2.2.2 + 1 = w.2.2.2 + 1 then _ else _) = _
    rw [if_pos rfl]
theorem mn_row {w : Wd} {N K j : Nat} (h : j < N) : (mnW w N K).1 (w.2.2.2 + 1 + j + 1) = 0 ∧ (mnW w N K).2.1 (w.2.2.2 + 1 + j + 1) = K := by
  refine ⟨?_, ?_⟩
  · show (if w.2.2.2 + 1 + j + 1 = w.2.2.2 + 1 then _ else if w.2.2.2 + 1 < w.2.2.2 + 1 + j + 1 ∧ w.2.2.2 + 1 + j + 1 ≤ w.2.2.2 + 1 + N then _ else _) = _
    rw [if_neg (by omega), if_pos (by omega)]
  · show (if w.2.2.2 + 1 + j + 1 = w.2.2.2 + 1 then _ else if w.2.2.2 + 1 < w.2.2.2 + 1 + j + 1 ∧ w.2.2.2 + 1 + j + 1 ≤ w.2.2.2 + 1 + N then _ else _) = _
    rw [if_neg (by omega), if_pos (by omega)]
theorem HR_mn {Γ : GG} {w : Wd} {M : MM} {H H' : Heap} {N K : Nat} (h : HR Γ w M H) (hz : H'.size = H.size + 1 + N) (ho : ∀ q, q < H.size → H'[q]? = H[q]?) (h1 : H'[H.size]? = some (mo (gA Γ 2) N H.size N)) (h2 : ∀ j, j < N → H'[H.size + 1 + j]? = some (arrV (gA Γ 0) K (fun _ => .int 0))) : HR Γ (mnW w N K) (mnM M w.2.2.2 N) H' := by
  have h9 := h
  obtain ⟨hs, hR, h15, hcs, h0, hs1, hs2, hs3⟩ := h
  refine ⟨?_, fun a k => ?_, fun a ha => ?_, fun i hi => ?_, ?_, ?_, ?_, fun j hj => ?_⟩
  · show H'.size = gB Γ + (w.2.2.2 + 1 + N)
    rw [hz, hs]; omega
  · show inR (if w.2.2.2 < a ∧ a ≤ w.2.2.2 + 1 + N then 0 else M a k)
    split
    · exact so_0
    · exact hR a k
  · have ha : w.2.2.2 + 1 + N < a := ha
    show (if a = w.2.2.2 + 1 then 2 else if w.2.2.2 + 1 < a ∧ a ≤ w.2.2.2 + 1 + N then 0 else w.1 a) = 15
    rw [if_neg (by omega), if_neg (by omega)]
    exact h15 a (by omega)
  · have hi : i < w.2.2.2 + 1 + N := hi
    by_cases c : i < w.2.2.2
    · obtain ⟨e1, e2, e3⟩ := mn_in (N := N) (K := K) c
      rw [e1, e2, e3, show mnM M w.2.2.2 N (i + 1) = M (i + 1) from funext (fun k => by show (if w.2.2.2 < i + 1 ∧ i + 1 ≤ w.2.2.2 + 1 + N then 0 else M (i + 1) k) = _; rw [if_neg (by omega)])]
      exact cellAt_kept (hcs i c) (ho _ (adr_lt h9 c))
    · by_cases c2 : i = w.2.2.2
      · subst c2
        obtain ⟨e1, e2, e3⟩ := mn_out (w := w) (N := N) (K := K)
        rw [e1, e2, e3]
        show H'[adr Γ (w.2.2.2 + 1)]? = some (arR Γ 2 N _)
        rw [show adr Γ (w.2.2.2 + 1) = H.size from hs.symm, h1]
        unfold mo arR
        congr 2
        funext j
        show (if j < N then Value.ref (H.size + 1 + j) else Value.null) = va_rf (Option.map (adr Γ) (if j < N then some (w.2.2.2 + 2 + j) else none))
        by_cases c3 : j < N
        · rw [if_pos c3, if_pos c3]
          rw [show w.2.2.2 + 2 + j = (w.2.2.2 + 1 + j) + 1 by omega]
          have e5 : (H.size + 1 + j : Nat) = gB Γ + (w.2.2.2 + 1 + j) := by rw [hs]; omega
          exact congrArg Value.ref e5
        · rw [if_neg c3, if_neg c3]
          rfl
      · obtain ⟨j, rfl⟩ : ∃ j, i = w.2.2.2 + 1 + j := ⟨i - (w.2.2.2 + 1), by omega⟩
        obtain ⟨e1, e2⟩ := mn_row (w := w) (N := N) (K := K) (j := j) (by omega)
        rw [e1, e2]
        show H'[adr Γ (w.2.2.2 + 1 + j + 1)]? = some (arI Γ 0 K _)
        rw [show adr Γ (w.2.2.2 + 1 + j + 1) = H.size + 1 + j by (show gB Γ + (w.2.2.2 + 1 + j) = _); rw [hs]; omega, h2 j (by omega)]
        unfold arI
        congr 2
        funext q
        show Value.int 0 = Value.int (Int32.ofInt (if w.2.2.2 < w.2.2.2 + 1 + j + 1 ∧ w.2.2.2 + 1 + j + 1 ≤ w.2.2.2 + 1 + N then 0 else _))
        rw [if_pos (by omega)]
        rfl
  · show (if 0 = w.2.2.2 + 1 then 2 else if w.2.2.2 + 1 < 0 ∧ 0 ≤ w.2.2.2 + 1 + N then 0 else w.1 0) = 14
    rw [if_neg (by omega), if_neg (by omega)]
    exact h0
  · show _ = (if 0 = w.2.2.2 + 1 then N else if w.2.2.2 + 1 < 0 ∧ 0 ≤ w.2.2.2 + 1 + N then K else w.2.1 0)
    rw [if_neg (by omega), if_neg (by omega)]
    exact hs1
  · show (if 0 = w.2.2.2 + 1 then N else if w.2.2.2 + 1 < 0 ∧ 0 ≤ w.2.2.2 + 1 + N then K else w.2.1 0) < _
    rw [if_neg (by omega), if_neg (by omega)]
    exact hs2
  · have hj : j < (if 0 = w.2.2.2 + 1 then N else if w.2.2.2 + 1 < 0 ∧ 0 ≤ w.2.2.2 + 1 + N then K else w.2.1 0) := hj
    rw [if_neg (by omega), if_neg (by omega)] at hj
    show _ = some (Value.int (Int32.ofInt (if w.2.2.2 < 0 ∧ 0 ≤ w.2.2.2 + 1 + N then 0 else M 0 j)))
    rw [if_neg (by omega)]
    exact hs3 j hj
theorem r_mna (Γ : GG) : r_mna_open Γ := by
  intro μ pc ls st cs sl w M Q K ix hK hd h1 h2 h3 h
  obtain ⟨x, y, st, rfl, ⟨hx0, hy0⟩, h⟩ := popII_ex h
  obtain ⟨hg, h⟩ := gd_ex h
  obtain ⟨hg1, hg2⟩ := rmk_le hg
  intro p e R s m args below meth c H locs lc Z C hH hL hSt hS hR
  have hyR : inR y := so_head hSt
  have hxR : inR x := so_head (so_tail hSt)
  obtain ⟨hx, hb, hr, hml, hown, hts, hlk, hnm, hKF, ⟨-, -, hrc, hrs⟩, -⟩ := id C
  obtain ⟨kA, hkA, hkindA⟩ := hKF.2.2.2.2
  obtain ⟨-, kI, hkI, compI, hkindI⟩ := (hKF.1.2 0 _ rfl).1 0 (fun _ => .null)
  have hfA : s.vm.findClass "[[I" = some (gA Γ 2) := (hKF.1.2 2 _ rfl).2
  have e9 : H.size = adr Γ (w.2.2.2 + 1) := hH.1
  refine w_mna hx hb hown (hts _ h1) hfA hkA hkindA hkI hkindI (n := Int32.ofInt x) (k := Int32.ofInt y) (N := x.toNat) (K := y.toNat) (by rw [show (0 : Int32) = Int32.ofInt 0 from rfl, so_lt hxR so_0]; omega) (so_clamp hxR hx0.1) (by rw [show (0 : Int32) = Int32.ofInt 0 from rfl, so_lt hyR so_0]; omega) (so_clamp hyR hy0.1) (by omega) (by omega) (by omega) (by omega) hd (fun H' L z1 o1 z2 z3 hL' => ?_)
  have hw := hK _ _ _ _ _ _ _ h p e R s m args below meth c H' (locs ++ L) lc Z C (HR_mn hH z1 o1 z2 z3) hL (so_push (v := VR (w.2.2.2 + 1)) trivial (so_tail (so_tail hSt))) ?_ hR
  · show W _ _ _ _ _ _ _ _ _ _ _ _ _ _ _ (F0 m (pc + 4) lc (.ref H.size :: _))
    rw [e9]
    exact hw
  · obtain ⟨s1, s2, s3⟩ := va_S_new hS (show H.size ≤ H'.size by omega) o1
    refine ⟨s1, s2, fun q hq => ?_⟩
    rcases List.mem_append.mp hq with hq | hq
    · exact s3 q hq
    · rw [hL' q hq]
      show gB Γ ≤ H.size
      rw [e9]
      exact Nat.le_add_right _ _
