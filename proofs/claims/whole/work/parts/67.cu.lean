/-! ===== worlds on the way: the last one, as far as it stands ===== -/
theorem Wd_ext {w w' : Wd} (h1 : ∀ a, w.1 a = w'.1 a) (h2 : ∀ a, w.2.1 a = w'.2.1 a) (h3 : ∀ a k, w.2.2.1 a k = w'.2.2.1 a k) (h4 : w.2.2.2 = w'.2.2.2) : w = w' := by
  obtain ⟨k, l, r, n⟩ := w
  obtain ⟨k', l', r', n'⟩ := w'
  have e1 : k = k' := funext h1
  have e2 : l = l' := funext h2
  have e3 : r = r' := funext (fun a => funext (h3 a))
  have e4 : n = n' := h4
  rw [e1, e2, e3, e4]
def TW (L n : Nat) (R : Nat → Nat → Option Nat) : Wd := (fun a => if a ≤ n then (W0 L).1 a else 15, fun a => if a ≤ n then (W0 L).2.1 a else 0, R, n)
def cRf (L n j d i a k : Nat) : Option Nat := if n < a then none else if a = 1 ∧ j ≤ k then none else if a = d ∧ i ≤ k then none else (W0 L).2.2.1 a k
/-- n cells stand; of cell 1 the first j references, of cell d the first i -/
def CU (L n j d i : Nat) : Wd := TW L n (cRf L n j d i)
theorem TW_nw {L n kd ln : Nat} {R : Nat → Nat → Option Nat} (hk : (W0 L).1 (n + 1) = kd) (hl : (W0 L).2.1 (n + 1) = ln) : nwW (TW L n R) kd ln = TW L (n + 1) (upN R (n + 1) (fun _ => none)) := by
  refine Wd_ext (fun a => ?_) (fun a => ?_) (fun a k => rfl) rfl
  · show (if a = n + 1 then kd else if a ≤ n then (W0 L).1 a else 15) = if a ≤ n + 1 then (W0 L).1 a else 15
    by_cases c : a = n + 1
    · subst c; rw [if_pos rfl, if_pos (Nat.le_refl _), hk]
    · rw [if_neg c]
      by_cases c2 : a ≤ n
      · rw [if_pos c2, if_pos (by omega)]
      · rw [if_neg c2, if_neg (by omega)]
  · show (if a = n + 1 then ln else if a ≤ n then (W0 L).2.1 a else 0) = if a ≤ n + 1 then (W0 L).2.1 a else 0
    by_cases c : a = n + 1
    · subst c; rw [if_pos rfl, if_pos (Nat.le_refl _), hl]
    · rw [if_neg c]
      by_cases c2 : a ≤ n
      · rw [if_pos c2, if_pos (by omega)]
      · rw [if_neg c2, if_neg (by omega)]
theorem TW_R {L n : Nat} {R R' : Nat → Nat → Option Nat} (h : ∀ a k, R a k = R' a k) : TW L n R = TW L n R' := by
  rw [show R = R' from funext (fun a => funext (h a))]
theorem CU_arr {L n j d i kd ln : Nat} (hd : d ≤ n) (h1 : 1 ≤ n) (hk : (W0 L).1 (n + 1) = kd) (hl : (W0 L).2.1 (n + 1) = ln) (hr : ∀ k, (W0 L).2.2.1 (n + 1) k = none) : nwW (CU L n j d i) kd ln = CU L (n + 1) j d i := by
  refine (TW_nw hk hl).trans (TW_R (fun a k => ?_))
  show (if a = n + 1 then (fun _ => none) else cRf L n j d i a) k = cRf L (n + 1) j d i a k
  unfold cRf
  by_cases c : a = n + 1
  · subst c
    rw [if_pos rfl, hr]
    repeat' split
    all_goals rfl
  · rw [if_neg c]
    repeat' split
    all_goals first | rfl | omega
theorem CU_obj {L n j d i kd ln : Nat} (hd : d ≤ n) (hk : (W0 L).1 (n + 1) = kd) (hl : (W0 L).2.1 (n + 1) = ln) (hr : ∀ k, i ≤ k → (W0 L).2.2.1 d k = none) : nwW (CU L n j d i) kd ln = CU L (n + 1) j (n + 1) 0 := by
  refine (TW_nw hk hl).trans (TW_R (fun a k => ?_))
  show (if a = n + 1 then (fun _ => none) else cRf L n j d i a) k = cRf L (n + 1) j (n + 1) 0 a k
  unfold cRf
  by_cases c : a = n + 1
  · subst c
    rw [if_pos rfl]
    repeat' split
    all_goals first | rfl | omega
  · rw [if_neg c]
    by_cases c4 : a = d ∧ i ≤ k
    · rw [c4.1, hr k c4.2]
      repeat' split
      all_goals rfl
    · repeat' split
      all_goals first | rfl | omega
theorem CU_set1 {L n j d i x : Nat} (h1 : 1 ≤ n) (hd : d ≠ 1) (hx : (W0 L).2.2.1 1 j = some x) : rfW (CU L n j d i) 1 j (some x) = CU L n (j + 1) d i := by
  refine TW_R (fun a k => ?_)
  show (if a = 1 ∧ k = j then some x else cRf L n j d i a k) = cRf L n (j + 1) d i a k
  unfold cRf
  by_cases c : a = 1 ∧ k = j
  · obtain ⟨c1, c2⟩ := c
    subst c1 c2
    rw [hx]
    repeat' split
    all_goals first | rfl | omega
  · repeat' split
    all_goals first | rfl | omega
theorem CU_setd {L n j d i t x : Nat} (hn : d ≤ n) (hd : d ≠ 1) (ht : i ≤ t) (hx : (W0 L).2.2.1 d t = some x) (hb : ∀ k, i ≤ k → k < t → (W0 L).2.2.1 d k = none) : rfW (CU L n j d i) d t (some x) = CU L n j d (t + 1) := by
  refine TW_R (fun a k => ?_)
  show (if a = d ∧ k = t then some x else cRf L n j d i a k) = cRf L n j d (t + 1) a k
  unfold cRf
  by_cases c : a = d ∧ k = t
  · obtain ⟨c1, c2⟩ := c
    subst c1 c2
    rw [hx]
    repeat' split
    all_goals first | rfl | omega
  · by_cases c2 : a = d ∧ i ≤ k ∧ k < t
    · obtain ⟨c3, c4, c5⟩ := c2
      subst c3
      rw [hb k c4 c5]
      repeat' split
      all_goals first | rfl | omega
    · repeat' split
      all_goals first | rfl | omega
/-- a row of references comes, and is the first of its owner -/
theorem CU_row {L n j kd ln : Nat} (h1 : 1 < n) (hk : (W0 L).1 (n + 1) = kd) (hl : (W0 L).2.1 (n + 1) = ln) (hx : (W0 L).2.2.1 n 0 = some (n + 1)) (hr : ∀ k, 1 ≤ k → (W0 L).2.2.1 n k = none) : rfW (nwW (CU L n j n 0) kd ln) n 0 (some (n + 1)) = CU L (n + 1) j (n + 1) 0 := by
  rw [show nwW (CU L n j n 0) kd ln = TW L (n + 1) (upN (cRf L n j n 0) (n + 1) (fun _ => none)) from TW_nw hk hl]
  refine TW_R (fun a k => ?_)
  show (if a = n ∧ k = 0 then some (n + 1) else (if a = n + 1 then (fun _ => none) else cRf L n j n 0 a) k) = cRf L (n + 1) j (n + 1) 0 a k
  unfold cRf
  by_cases c : a = n + 1
  · subst c
    rw [if_pos (c := n + 1 = n + 1) rfl]
    repeat' split
    all_goals first | rfl | omega
  · rw [if_neg (c := a = n + 1) c]
    by_cases c4 : a = n
    · subst c4
      by_cases c5 : k = 0
      · subst c5
        rw [hx]
        repeat' split
        all_goals first | rfl | omega
      · rw [hr k (by omega)]
        repeat' split
        all_goals first | rfl | omega
    · repeat' split
      all_goals first | rfl | omega
/-- what the last world has of a graph -/
def WG (L g : Nat) : Prop := GrL (W0 L) g ∧ (W0 L).2.1 g = 0 ∧ (∀ k, 2 ≤ k → (W0 L).2.2.1 g k = none) ∧ (∀ k, 7 ≤ k → (W0 L).2.2.1 (g + 1) k = none) ∧ ∀ t, 2 ≤ t → t ≤ 9 → ∀ k, (W0 L).2.2.1 (g + t) k = none
def grW (w : Wd) (g : Nat) : Wd := rfW (nwW (rfW (mnW w 7 13) g 0 (some (w.2.2.2 + 1))) 0 6) g 1 (some ((mnW w 7 13).2.2.2 + 1))
theorem grW_GrL {w : Wd} {g : Nat} (hn : w.2.2.2 = g) (hk : w.1 g = 5) : GrL (grW w g) g := by
  have e1 : (grW w g).1 = upN (mnW w 7 13).1 (g + 9) 0 := by
    show upN (mnW w 7 13).1 (w.2.2.2 + 1 + 7 + 1) 0 = _
    rw [hn]
  have e2 : (grW w g).2.1 = upN (mnW w 7 13).2.1 (g + 9) 6 := by
    show upN (mnW w 7 13).2.1 (w.2.2.2 + 1 + 7 + 1) 6 = _
    rw [hn]
  have e3 : (grW w g).2.2.1 = upR (upN (upR (mnW w 7 13).2.2.1 g 0 (some (g + 1))) (g + 9) (fun _ => none)) g 1 (some (g + 9)) := by
    show upR (upN (upR (mnW w 7 13).2.2.1 g 0 (some (w.2.2.2 + 1))) (w.2.2.2 + 1 + 7 + 1) (fun _ => none)) g 1 (some (w.2.2.2 + 1 + 7 + 1)) = _
    rw [hn]
  have m1 : ∀ a, (mnW w 7 13).1 a = if a = g + 1 then 2 else if g + 1 < a ∧ a ≤ g + 1 + 7 then 0 else w.1 a := fun a => by
    show (if a = w.2.2.2 + 1 then 2 else if w.2.2.2 + 1 < a ∧ a ≤ w.2.2.2 + 1 + 7 then 0 else w.1 a) = _
    rw [hn]
  have m2 : ∀ a, (mnW w 7 13).2.1 a = if a = g + 1 then 7 else if g + 1 < a ∧ a ≤ g + 1 + 7 then 13 else w.2.1 a := fun a => by
    show (if a = w.2.2.2 + 1 then 7 else if w.2.2.2 + 1 < a ∧ a ≤ w.2.2.2 + 1 + 7 then 13 else w.2.1 a) = _
    rw [hn]
  have m3 : ∀ a k, (mnW w 7 13).2.2.1 a k = (if a = g + 1 then (fun j => if j < 7 then some (g + 2 + j) else none) else if g + 1 < a ∧ a ≤ g + 1 + 7 then (fun _ => none) else w.2.2.1 a) k := fun a k => by
    show (if a = w.2.2.2 + 1 then (fun j => if j < 7 then some (w.2.2.2 + 2 + j) else none) else if w.2.2.2 + 1 < a ∧ a ≤ w.2.2.2 + 1 + 7 then (fun _ => none) else w.2.2.1 a) k = _
    rw [hn]
  refine GrL_of ?_ ?_ ?_ ?_ ?_ (fun j hj => ?_) (fun j hj => ?_) (fun j hj => ?_) ?_ ?_
  · rw [e1, upN_ne (by omega), m1, if_neg (by omega), if_neg (by omega)]; exact hk
  · rw [e3]; unfold upR upN; rw [if_neg (c := g = g ∧ 0 = 1) (by omega), if_neg (c := g = g + 9) (by omega)]; exact if_pos ⟨rfl, rfl⟩
  · rw [e3]; unfold upR; rw [if_pos ⟨rfl, rfl⟩]
  · rw [e1, upN_ne (by omega), m1, if_pos rfl]
  · rw [e2, upN_ne (by omega), m2, if_pos rfl]
  · rw [e3]; unfold upR upN; rw [if_neg (c := g + 1 = g ∧ j = 1) (by omega), if_neg (c := g + 1 = g + 9) (by omega)]; refine (if_neg (by omega)).trans ?_; rw [m3, if_pos rfl, if_pos hj]
  · rw [e1, upN_ne (by omega), m1, if_neg (by omega), if_pos (by omega)]
  · rw [e2, upN_ne (by omega), m2, if_neg (by omega), if_pos (by omega)]
  · rw [e1, upN_eq]
  · rw [e2, upN_eq]
theorem CU_gr {L n j d i : Nat} (hg : WG L (n + 1)) (hd : d ≤ n) (h1 : 1 ≤ n) : grW (nwW (CU L n j d i) 5 0) (n + 1) = CU L (n + 10) j d i := by
  obtain ⟨g1, g2, g3, g4, g5⟩ := hg
  refine Wd_ext (fun a => ?_) (fun a => ?_) (fun a k => ?_) rfl
  · show (if a = n + 1 + 1 + 7 + 1 then 0 else if a = n + 1 + 1 then 2 else if n + 1 + 1 < a ∧ a ≤ n + 1 + 1 + 7 then 0 else if a = n + 1 then 5 else if a ≤ n then (W0 L).1 a else 15) = if a ≤ n + 10 then (W0 L).1 a else 15
    by_cases c : n + 1 ≤ a ∧ a ≤ n + 10
    · rw [if_pos (c := a ≤ n + 10) c.2]
      by_cases c9 : a = n + 1 + 9
      · rw [if_pos (c := a = n + 1 + 1 + 7 + 1) (by omega), c9]; exact g1.ck.symm
      · rw [if_neg (c := a = n + 1 + 1 + 7 + 1) (by omega)]
        by_cases c1 : a = n + 1 + 1
        · rw [if_pos (c := a = n + 1 + 1) c1, c1]; exact g1.ok.symm
        · rw [if_neg (c := a = n + 1 + 1) c1]
          by_cases c0 : a = n + 1
          · rw [if_neg (by omega), if_pos c0, c0]; exact g1.k.symm
          · rw [if_pos (by omega)]
            have := g1.rk (a - (n + 3)) (by omega)
            rw [show n + 1 + 2 + (a - (n + 3)) = a by omega] at this
            exact this.symm
    · repeat' split
      all_goals first | rfl | omega
  · show (if a = n + 1 + 1 + 7 + 1 then 6 else if a = n + 1 + 1 then 7 else if n + 1 + 1 < a ∧ a ≤ n + 1 + 1 + 7 then 13 else if a = n + 1 then 0 else if a ≤ n then (W0 L).2.1 a else 0) = if a ≤ n + 10 then (W0 L).2.1 a else 0
    by_cases c : n + 1 ≤ a ∧ a ≤ n + 10
    · rw [if_pos (c := a ≤ n + 10) c.2]
      by_cases c9 : a = n + 1 + 9
      · rw [if_pos (c := a = n + 1 + 1 + 7 + 1) (by omega), c9]; exact g1.cl.symm
      · rw [if_neg (c := a = n + 1 + 1 + 7 + 1) (by omega)]
        by_cases c1 : a = n + 1 + 1
        · rw [if_pos (c := a = n + 1 + 1) c1, c1]; exact g1.ol.symm
        · rw [if_neg (c := a = n + 1 + 1) c1]
          by_cases c0 : a = n + 1
          · rw [if_neg (by omega), if_pos c0, c0]; exact g2.symm
          · rw [if_pos (by omega)]
            have := g1.rl (a - (n + 3)) (by omega)
            rw [show n + 1 + 2 + (a - (n + 3)) = a by omega] at this
            exact this.symm
    · repeat' split
      all_goals first | rfl | omega
  · show (if a = n + 1 ∧ k = 1 then some (n + 1 + 1 + 7 + 1) else (if a = n + 1 + 1 + 7 + 1 then (fun _ => none) else (fun k' => if a = n + 1 ∧ k' = 0 then some (n + 1 + 1) else (if a = n + 1 + 1 then (fun j => if j < 7 then some (n + 1 + 2 + j) else none) else if n + 1 + 1 < a ∧ a ≤ n + 1 + 1 + 7 then (fun _ => none) else (if a = n + 1 then (fun _ => none) else cRf L n j d i a)) k')) k) = cRf L (n + 10) j d i a k
    by_cases c : n + 1 ≤ a ∧ a ≤ n + 10
    · rw [show cRf L (n + 10) j d i a k = (W0 L).2.2.1 a k by unfold cRf; rw [if_neg (by omega), if_neg (by omega), if_neg (by omega)]]
      by_cases c0 : a = n + 1
      · subst c0
        by_cases k1 : k = 1
        · subst k1; rw [if_pos ⟨rfl, rfl⟩]; exact g1.c.symm
        · rw [if_neg (fun z => k1 z.2), if_neg (by omega)]
          by_cases k0 : k = 0
          · subst k0; refine (if_pos ⟨rfl, rfl⟩).trans g1.o.symm
          · refine (if_neg (fun z => k0 z.2)).trans ?_
            rw [if_neg (by omega), if_neg (by omega), if_pos rfl, g3 k (by omega)]
      · rw [if_neg (fun z => c0 z.1)]
        by_cases c9 : a = n + 1 + 1 + 7 + 1
        · rw [if_pos c9, c9]
          exact (g5 9 (by decide) (by decide) k).symm
        · rw [if_neg c9]
          refine (if_neg (fun z => c0 z.1)).trans ?_
          by_cases c1 : a = n + 1 + 1
          · rw [if_pos c1]
            subst c1
            by_cases k7 : k < 7
            · rw [if_pos k7]; exact (g1.r k k7).symm
            · rw [if_neg k7]; exact (g4 k (by omega)).symm
          · rw [if_neg c1, if_pos (by omega)]
            have := g5 (a - (n + 1)) (by omega) (by omega) k
            rw [show n + 1 + (a - (n + 1)) = a by omega] at this
            exact this.symm
    · rw [if_neg (by omega), if_neg (by omega)]
      refine (if_neg (by omega)).trans ?_
      rw [if_neg (by omega), if_neg (by omega), if_neg (by omega)]
      unfold cRf
      repeat' split
      all_goals first | rfl | omega
