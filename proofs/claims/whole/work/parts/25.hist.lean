/-! ===== the class's History, Images, Seen, Text: what is kept ===== -/
theorem GrR.frm {M M' : MM} {g o : Nat} {G : GT} (h : GrR M o G) (hf : frG M M' g) (hd : o + 9 < g ∨ g + 9 < o) : GrR M' o G := h.keep (fun a h1 h2 => hf a (by omega))
def csH (G : GT) (Hs : Nat → GT) : Nat → GT
  | 0 => G
  | i + 1 => Hs i
def HsR (M : MM) (hk : Nat) (Hs : Nat → GT) : Prop := ∃ r, r < 10 ∧ M 24 1 = (r : Nat) ∧ M 24 2 = hk ∧ hk ≤ 10 ∧ ∀ i, i < hk → GrR M (26 + 10 * ((r + 10 - i) % 10)) (Hs i) ∧ WFG (Hs i)
theorem HsR.keep {M M' : MM} {hk : Nat} {Hs : Nat → GT} (h : HsR M hk Hs) (hf : ∀ a, 24 ≤ a → a ≤ 125 → M' a = M a) : HsR M' hk Hs := by
  obtain ⟨r, h1, h2, h3, h4, h5⟩ := h
  refine ⟨r, h1, by rw [hf 24 (by omega) (by omega)]; exact h2, by rw [hf 24 (by omega) (by omega)]; exact h3, h4, fun i hi => ⟨(h5 i hi).1.keep (fun a a1 a2 => hf a (by omega) (by omega)), (h5 i hi).2⟩⟩
section Hist
variable {Γ : GG} {L : Nat} {M : MM} {Q : QT} {G : GT}
theorem c_remember (hG : GOK Γ) {hk : Nat} {Hs : Nat → GT} (hh : HsR M hk Hs) (hr : GrR M 2 G) (hw : WFG G) (h : ∀ M', HsR M' (min (hk + 1) 10) (csH G Hs) → (∀ a, a < 24 ∨ 125 < a → M' a = M a) → Q none (W0 L) M') : wp Γ mX2_remember 0 [some (VR 24), some (VR 2)] [] 0 0 (W0 L) M Q := by
  obtain ⟨r, h1, h2, h3, h4, h5⟩ := hh
  have key : ∀ r' : Nat, r' < 10 → r' = (r + 1) % 10 → wp Γ mX1_copy 0 [some (VR (26 + 10 * r')), some (VR 2)] [] 0 0 (W0 L) (upM M 24 1 r') (fun v w' M' => w' = W0 L ∧ v = none ∧ GrR M' (26 + 10 * r') G ∧ frG (upM M 24 1 r') M' (26 + 10 * r')) := by
    intro r' hr' _
    refine c_copy hG (W0_h L r' hr') (W0_g2 L) (by omega) (hr.keep (fun a a1 a2 => upM_ne (by omega))) hw (fun M' g1 g2 => ⟨rfl, rfl, g1, g2⟩)
  have fin : ∀ (r' : Nat) (M' : MM), r' < 10 → r' = (r + 1) % 10 → GrR M' (26 + 10 * r') G → frG (upM M 24 1 r') M' (26 + 10 * r') → Q none (W0 L) (upM M' 24 2 (min (M' 24 2 + 1) 10)) := by
    intro r' M' hr' er g1 g2
    have f24 : M' 24 = upM M 24 1 r' 24 := g2 24 (by omega)
    have e2 : M' 24 2 = hk := by rw [f24, upM_k (by decide)]; exact h3
    refine h _ ⟨r', hr', ?_, ?_, by omega, fun i hi => ?_⟩ (fun a ha => ?_)
    · rw [upM_k (by decide), f24, upM_eq]
    · rw [upM_eq, e2]; omega
    · cases i with
      | zero =>
        rw [show (r' + 10 - 0) % 10 = r' by omega]
        exact ⟨g1.keep (fun a a1 a2 => upM_ne (by omega)), hw⟩
      | succ i =>
        have hi : i + 1 < min (hk + 1) 10 := hi
        rw [show (r' + 10 - (i + 1)) % 10 = (r + 10 - i) % 10 by omega]
        refine ⟨(h5 i (by omega)).1.keep (fun a a1 a2 => ?_), (h5 i (by omega)).2⟩
        rw [upM_ne (by omega), g2 a (by omega), upM_ne (by omega)]
    · rw [upM_ne (by omega), g2 a (by omega), upM_ne (by omega)]
  refine vc_go hG 60 (B := bX2_remember) rfl ?_
  refine And.intro rfl (And.intro (by omega) ?_)
  refine And.intro (fun a => ?_) (fun a => ?_)
  · have er : r = 9 := by omega
    refine And.intro rfl ?_
    refine And.intro rfl (Exists.intro _ (And.intro rfl ?_))
    refine And.intro rfl ?_
    refine And.intro (Or.inr rfl) (Exists.intro 0 (And.intro (by rw [upM_eq]; rfl) (And.intro (show 0 < 10 by decide) (Exists.intro _ (And.intro (W0_hr L 0 (by decide)) ?_)))))
    refine And.intro (W0_h L 0 (by decide)).k ?_
    refine wp_mono (key 0 (by decide) (by omega)) (fun v w' M' hq => ?_)
    obtain ⟨rfl, rfl, g1, g2⟩ := hq
    refine And.intro rfl (And.intro ?_ (And.intro rfl ?_))
    · rw [show M' 24 2 = M 24 2 by rw [g2 24 (by omega), upM_k (by decide)]]; omega
    · exact fin 0 M' (by decide) (by omega) g1 g2
  · refine And.intro rfl (And.intro (by omega) (And.intro rfl ?_))
    refine And.intro rfl (Exists.intro _ (And.intro rfl ?_))
    refine And.intro rfl ?_
    refine And.intro (Or.inr rfl) (Exists.intro (r + 1) (And.intro (by rw [upM_eq]; omega) (And.intro (show r + 1 < 10 by omega) (Exists.intro _ (And.intro (W0_hr L (r + 1) (by omega)) ?_)))))
    refine And.intro (W0_h L (r + 1) (by omega)).k ?_
    have e1 : M 24 1 + 1 = ((r + 1 : Nat) : Int) := by omega
    rw [e1]
    refine wp_mono (key (r + 1) (by omega) (by omega)) (fun v w' M' hq => ?_)
    obtain ⟨rfl, rfl, g1, g2⟩ := hq
    refine And.intro rfl (And.intro ?_ (And.intro rfl ?_))
    · rw [show M' 24 2 = M 24 2 by rw [g2 24 (by omega), upM_k (by decide)]]; omega
    · exact fin (r + 1) M' (by omega) (by omega) g1 g2
theorem c_restore (hG : GOK Γ) {hk : Nat} {Hs : Nat → GT} (hh : HsR M hk Hs) (hk0 : 0 < hk) (h : ∀ M', HsR M' (hk - 1) (fun i => Hs (i + 1)) → GrR M' 2 (Hs 0) → (∀ a, a < 2 ∨ (11 < a ∧ a ≠ 24) → M' a = M a) → Q none (W0 L) M') : wp Γ mX2_restore 0 [some (VR 24), some (VR 2)] [] 0 0 (W0 L) M Q := by
  obtain ⟨r, h1, h2, h3, h4, h5⟩ := hh
  have fin : ∀ (r' : Nat) (M' : MM), r' < 10 → r' = (r + 9) % 10 → GrR M' 2 (Hs 0) → frG M M' 2 → Q none (W0 L) (upM (upM M' 24 1 r') 24 2 (upM M' 24 1 r' 24 2 - 1)) := by
    intro r' M' hr' er g1 g2
    have f24 : M' 24 = M 24 := g2 24 (by omega)
    refine h _ ⟨r', hr', ?_, ?_, by omega, fun i hi => ?_⟩ ?_ (fun a ha => ?_)
    · rw [upM_k (by decide), upM_eq]
    · rw [upM_eq, upM_k (by decide), f24, h3]; omega
    · rw [show (r' + 10 - i) % 10 = (r + 10 - (i + 1)) % 10 by omega]
      refine ⟨(h5 (i + 1) (by omega)).1.keep (fun a a1 a2 => ?_), (h5 (i + 1) (by omega)).2⟩
      rw [upM_ne (by omega), upM_ne (by omega), g2 a (by omega)]
    · exact g1.keep (fun a a1 a2 => by rw [upM_ne (by omega), upM_ne (by omega)])
    · rw [upM_ne (by omega), upM_ne (by omega), g2 a (by omega)]
  have h0 := h5 0 hk0
  rw [show (r + 10 - 0) % 10 = r by omega] at h0
  refine vc_go hG 60 (B := bX2_restore) rfl ?_
  refine And.intro rfl (And.intro (fun a => by omega) (fun a => ?_))
  refine And.intro rfl (Exists.intro _ (And.intro rfl ?_))
  refine And.intro rfl ?_
  refine And.intro (Or.inr rfl) (Exists.intro r (And.intro h2 (And.intro (show r < 10 from h1) (Exists.intro _ (And.intro (W0_hr L r h1) ?_)))))
  refine And.intro rfl ?_
  refine c_copy hG (W0_g2 L) (W0_h L r h1) (by omega) h0.1 h0.2 (fun M' g1 g2 => ?_)
  have f24 : M' 24 = M 24 := g2 24 (by omega)
  refine And.intro rfl ?_
  refine And.intro (fun b => ?_) (fun b => ?_)
  · rw [f24] at b
    have : r = 0 := by omega
    refine And.intro rfl (And.intro rfl (And.intro ?_ (And.intro rfl ?_)))
    · rw [upM_k (by decide), f24, h3]; omega
    · exact fin 9 M' (by decide) (by omega) g1 g2
  · rw [f24] at b
    refine And.intro rfl (And.intro (by rw [f24, h2]; omega) (And.intro rfl (And.intro rfl (And.intro ?_ (And.intro rfl ?_)))))
    · rw [upM_k (by decide), f24, h3]; omega
    · have e1 : M' 24 1 - 1 = ((r - 1 : Nat) : Int) := by rw [f24]; omega
      have := fin (r - 1) M' (by omega) (by omega) g1 g2
      rw [← e1] at this
      exact this
theorem c_hlose (hG : GOK Γ) {hk : Nat} {Hs : Nat → GT} (hh : HsR M hk Hs) (h : HsR (upM M 24 2 0) 0 Hs → Q none (W0 L) (upM M 24 2 0)) : wp Γ mX2_lose 0 [some (VR 24)] [] 0 0 (W0 L) M Q := by
  obtain ⟨r, h1, h2, h3, h4, h5⟩ := hh
  refine vc_go hG 60 (B := bX2_lose) rfl ?_
  refine And.intro rfl (h ⟨r, h1, by rw [upM_k (by decide)]; exact h2, upM_eq, by omega, fun i hi => absurd hi (Nat.not_lt_zero i)⟩)
-- images: kept or not, and what
def ImR (M : MM) (ik : Nat → Nat) (Im : Nat → GT) : Prop := ∀ i, i < 2 → M 128 i = ik i ∧ ik i ≤ 1 ∧ (ik i = 1 → GrR M (129 + 10 * i) (Im i) ∧ WFG (Im i))
theorem ImR.keep {M M' : MM} {ik : Nat → Nat} {Im : Nat → GT} (h : ImR M ik Im) (hf : ∀ a, 126 ≤ a → a ≤ 148 → M' a = M a) : ImR M' ik Im := by
  intro i hi
  obtain ⟨h1, h2, h3⟩ := h i hi
  exact ⟨by rw [hf 128 (by omega) (by omega)]; exact h1, h2, fun e => ⟨(h3 e).1.keep (fun a a1 a2 => hf a (by omega) (by omega)), (h3 e).2⟩⟩
theorem c_iput (hG : GOK Γ) {ik : Nat → Nat} {Im : Nat → GT} (hh : ImR M ik Im) (hr : GrR M 2 G) (hw : WFG G) {iI : Int} {i : Nat} (ei : iI = i) (hi : i < 2) (h : ∀ M', ImR M' (upN ik i 1) (upN Im i G) → (∀ a, a < 126 ∨ 148 < a → M' a = M a) → Q none (W0 L) M') : wp Γ mX3_put 0 [some (VR 126), some (VI iI), some (VR 2)] [] 0 0 (W0 L) M Q := by
  subst ei
  refine vc_go hG 60 (B := bX3_put) rfl ?_
  refine And.intro rfl (Exists.intro _ (And.intro rfl ?_))
  refine And.intro (Or.inr rfl) (Exists.intro i (And.intro rfl (And.intro (show i < 2 from hi) (Exists.intro _ (And.intro (W0_ir L i hi) ?_)))))
  refine And.intro (W0_i L i hi).k ?_
  refine c_copy hG (W0_i L i hi) (W0_g2 L) (by omega) hr hw (fun M' g1 g2 => ?_)
  refine And.intro rfl (Exists.intro _ (And.intro rfl ?_))
  refine And.intro rfl (Exists.intro i (And.intro rfl (And.intro (show i < 2 from hi) (And.intro (Or.inr rfl) ?_))))
  refine h _ (fun j hj => ?_) (fun a ha => ?_)
  · unfold upN
    by_cases e : j = i
    · subst e
      rw [if_pos rfl, if_pos rfl, upM_eq]
      exact ⟨rfl, Nat.le_refl _, fun _ => ⟨g1.keep (fun a a1 a2 => upM_ne (by omega)), hw⟩⟩
    · rw [if_neg e, if_neg e, upM_k e, g2 128 (by omega)]
      obtain ⟨h1, h2, h3⟩ := hh j hj
      refine ⟨h1, h2, fun e9 => ⟨(h3 e9).1.keep (fun a a1 a2 => ?_), (h3 e9).2⟩⟩
      rw [upM_ne (by omega), g2 a (by omega)]
  · rw [upM_ne (by omega), g2 a (by omega)]
theorem c_ilose (hG : GOK Γ) {ik : Nat → Nat} {Im : Nat → GT} (hh : ImR M ik Im) (h : ∀ M', ImR M' (fun _ => 0) Im → (∀ a, a ≠ 128 → M' a = M a) → Q none (W0 L) M') : wp Γ mX3_lose 0 [some (VR 126)] [] 0 0 (W0 L) M Q := by
  refine vc_go hG 60 (B := bX3_lose) rfl ?_
  refine vc_go hG 60 (B := bX3_lose) rfl ?_
  refine And.intro (fun a => absurd a (by decide)) (fun a => ?_)
  refine And.intro rfl (Exists.intro _ (And.intro rfl ?_))
  refine And.intro rfl (Exists.intro 0 (And.intro rfl (And.intro (show 0 < 2 by decide) (And.intro (Or.inl rfl) ?_))))
  refine And.intro (by decide) ?_
  refine vc_go hG 60 (B := bX3_lose) rfl ?_
  refine And.intro (fun a => absurd a (by decide)) (fun a => ?_)
  refine And.intro rfl (Exists.intro _ (And.intro rfl ?_))
  refine And.intro rfl (Exists.intro 1 (And.intro rfl (And.intro (show 1 < 2 by decide) (And.intro (Or.inl rfl) ?_))))
  refine And.intro (by decide) ?_
  refine vc_go hG 60 (B := bX3_lose) rfl ?_
  refine And.intro (fun a => ?_) (fun a => absurd a (by decide))
  refine h _ (fun j hj => ⟨?_, Nat.zero_le _, fun e => absurd e Nat.zero_ne_one⟩) (fun a ha => ?_)
  · match j, hj with
    | 0, _ => rw [upM_k (by decide), upM_eq]; rfl
    | 1, _ => rw [upM_eq]; rfl
    | j + 2, hj => omega
  · rw [upM_ne ha, upM_ne ha]
-- what was seen
def SnR (M : MM) (n : Nat) (sm sr : Nat → Nat) : Prop := M 149 3 = n ∧ n ≤ 6 ∧ ∀ k, k < n → M 150 k = sm k ∧ M 151 k = sr k ∧ 2 ≤ sm k ∧ sm k ≤ 9 ∧ sr k < sm k
theorem SnR.keep {M M' : MM} {n : Nat} {sm sr : Nat → Nat} (h : SnR M n sm sr) (hf : ∀ a, 149 ≤ a → a ≤ 151 → M' a = M a) : SnR M' n sm sr := by
  unfold SnR
  rw [hf 149 (by omega) (by omega), hf 150 (by omega) (by omega), hf 151 (by omega) (by omega)]
  exact h
theorem c_snap (hG : GOK Γ) {n : Nat} {sm sr : Nat → Nat} (hh : SnR M n sm sr) {mI rI : Int} {m r : Nat} (em : mI = m) (er : rI = r) (h1 : 2 ≤ m ∧ m ≤ 9 ∧ r < m) (h6 : n = 6 → Q (some (VI (-3))) (W0 L) M) (h : n < 6 → ∀ M', SnR M' (n + 1) (upN sm n m) (upN sr n r) → (∀ a, a < 149 ∨ 151 < a → M' a = M a) → Q (some (VI ((n + 1 : Nat) : Int))) (W0 L) M') : wp Γ mX6_append 0 [some (VR 149), some (VI mI), some (VI rI)] [] 0 0 (W0 L) M Q := by
  subst em er
  obtain ⟨s1, s2, s3⟩ := hh
  refine vc_go hG 60 (B := bX6_append) rfl ?_
  refine And.intro rfl (And.intro (fun a => ?_) (fun a => h6 (by omega)))
  have hn : n < 6 := by omega
  refine And.intro rfl (Exists.intro _ (And.intro rfl (And.intro rfl ?_)))
  refine And.intro rfl (Exists.intro n (And.intro s1 (And.intro (show n < 6 from hn) ?_)))
  refine And.intro rfl (Exists.intro _ (And.intro rfl (And.intro rfl ?_)))
  refine And.intro rfl (Exists.intro n (And.intro (by rw [upM_a (by decide)]; exact s1) (And.intro (show n < 6 from hn) ?_)))
  refine And.intro rfl (And.intro ?_ (And.intro rfl (And.intro rfl ?_)))
  · rw [upM_a (by decide), upM_a (by decide), s1]; omega
  have e : upM (upM (upM M 150 n m) 151 n r) 149 3 (upM (upM M 150 n m) 151 n r 149 3 + 1) 149 3 = ((n + 1 : Nat) : Int) := by
    rw [upM_eq, upM_a (by decide), upM_a (by decide), s1]; omega
  have := h hn (upM (upM (upM M 150 n m) 151 n r) 149 3 (upM (upM M 150 n m) 151 n r 149 3 + 1)) ⟨e, by omega, fun k hk => ?_⟩ (fun a ha => ?_)
  · rw [← e] at this
    exact this
  · unfold upN
    by_cases q : k = n
    · subst q
      rw [if_pos rfl, if_pos rfl, upM_a (by decide), upM_a (by decide), upM_eq, upM_a (by decide), upM_eq]
      exact ⟨rfl, rfl, h1⟩
    · rw [if_neg q, if_neg q, upM_a (by decide), upM_a (by decide), upM_k q, upM_a (by decide), upM_k q, upM_a (by decide)]
      exact s3 k (by omega)
  · rw [upM_ne (by omega), upM_ne (by omega), upM_ne (by omega)]
theorem c_snlose (hG : GOK Γ) {n : Nat} {sm sr : Nat → Nat} (hh : SnR M n sm sr) (h : SnR (upM M 149 3 0) 0 sm sr → Q (some (VI n)) (W0 L) (upM M 149 3 0)) : wp Γ mX6_lose 0 [some (VR 149)] [] 0 0 (W0 L) M Q := by
  obtain ⟨s1, s2, s3⟩ := hh
  refine vc_go hG 60 (B := bX6_lose) rfl ?_
  refine And.intro rfl (And.intro rfl ?_)
  have := h ⟨upM_eq, by omega, fun k hk => absurd hk (Nat.not_lt_zero k)⟩
  rw [← s1] at this
  exact this
-- the text
def TxR (M : MM) (n : Nat) (T : Nat → Nat) : Prop := M 22 1 = n ∧ n ≤ 80 ∧ ∀ k, k < n → M 23 k = T k ∧ T k ≤ 255
theorem TxR.keep {M M' : MM} {n : Nat} {T : Nat → Nat} (h : TxR M n T) (h1 : M' 22 1 = M 22 1) (h2 : M' 23 = M 23) : TxR M' n T := by
  unfold TxR
  rw [h1, h2]
  exact h
theorem c_txap (hG : GOK Γ) {n : Nat} {T : Nat → Nat} (hh : TxR M n T) {lI : Int} {l : Nat} (el : lI = l) (hl : l ≤ 255) (h6 : n = 80 → Q (some (VI (-3))) (W0 L) M) (h : n < 80 → ∀ M', TxR M' (n + 1) (upN T n l) → (∀ a, a < 22 ∨ 23 < a → M' a = M a) → Q (some (VI ((n + 1 : Nat) : Int))) (W0 L) M') : wp Γ mX7_append 0 [some (VR 22), some (VI lI)] [] 0 0 (W0 L) M Q := by
  subst el
  obtain ⟨s1, s2, s3⟩ := hh
  refine vc_go hG 60 (B := bX7_append) rfl ?_
  refine And.intro rfl (And.intro (fun a => ?_) (fun a => h6 (by omega)))
  have hn : n < 80 := by omega
  refine And.intro rfl (Exists.intro _ (And.intro rfl (And.intro rfl ?_)))
  refine And.intro rfl (Exists.intro n (And.intro s1 (And.intro (show n < 80 from hn) ?_)))
  refine And.intro rfl (And.intro ?_ (And.intro rfl (And.intro rfl ?_)))
  · rw [upM_a (by decide), s1]; omega
  have e : upM (upM M 23 n l) 22 1 (upM M 23 n l 22 1 + 1) 22 1 = ((n + 1 : Nat) : Int) := by
    rw [upM_eq, upM_a (by decide), s1]; omega
  have := h hn (upM (upM M 23 n l) 22 1 (upM M 23 n l 22 1 + 1)) ⟨e, by omega, fun k hk => ?_⟩ (fun a ha => ?_)
  · rw [← e] at this
    exact this
  · unfold upN
    by_cases q : k = n
    · subst q
      rw [if_pos rfl, upM_a (by decide), upM_eq]
      exact ⟨rfl, hl⟩
    · rw [if_neg q, upM_a (by decide), upM_k q]
      exact s3 k (by omega)
  · rw [upM_ne (by omega), upM_ne (by omega)]
theorem c_txem (hG : GOK Γ) {n : Nat} {T : Nat → Nat} (hh : TxR M n T) (h : TxR (upM M 22 1 0) 0 T → Q (some (VI n)) (W0 L) (upM M 22 1 0)) : wp Γ mX7_empty 0 [some (VR 22)] [] 0 0 (W0 L) M Q := by
  obtain ⟨s1, s2, s3⟩ := hh
  refine vc_go hG 60 (B := bX7_empty) rfl ?_
  refine And.intro rfl (And.intro rfl ?_)
  have := h ⟨upM_eq, by omega, fun k hk => absurd hk (Nat.not_lt_zero k)⟩
  rw [← s1] at this
  exact this
end Hist
