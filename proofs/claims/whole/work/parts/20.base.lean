/-! ===== what the contracts stand on ===== -/
/-- the tables are faithful (kernel), and the rule of 'new int[n][k]' -/
def GOK (Γ : GG) : Prop := r_mna_open Γ ∧ ∀ μ, bchk μ = true
theorem vc_go {Γ : GG} (hG : GOK Γ) {μ pc : Nat} {ls : LL} {st : List AV} {cs sl : Nat} {w : Wd} {M : MM} {Q : QT} (k : Nat) {B : BK} (hB : PL μ = B) (h : vc Γ μ B Q k true pc ls st cs sl w M) : wp Γ μ pc ls st cs sl w M Q := by
  subst hB
  exact vc_ok hG.1 (hG.2 μ) k true pc ls st cs sl w M h
theorem wp_mono {Γ : GG} {μ pc : Nat} {ls : LL} {st : List AV} {cs sl : Nat} {w : Wd} {M : MM} {Q Q' : QT} (h : wp Γ μ pc ls st cs sl w M Q) (hq : ∀ v w' M', Q v w' M' → Q' v w' M') : wp Γ μ pc ls st cs sl w M Q' :=
  fun p e R s m args below meth c H locs lc Z C hH hL hSt hS hR => h p e R s m args below meth c H locs lc Z C hH hL hSt hS (fun v w M H locs pc lc hQ hok hH hS hd => hR v w M H locs pc lc (hq v w M hQ) hok hH hS hd)
/-- a world that is the same as far as its cells go -/
theorem wp_congr {Γ : GG} {μ pc : Nat} {ls : LL} {st : List AV} {cs sl : Nat} {w w' : Wd} {M M' : MM} {Q : QT} (hn : w.2.2.2 = w'.2.2.2) (hk : ∀ a, w.1 a = w'.1 a) (hl : ∀ a, a ≤ w.2.2.2 → w.2.1 a = w'.2.1 a) (hr : ∀ a, a ≤ w.2.2.2 → ∀ k, w.2.2.1 a k = w'.2.2.1 a k) (hM : ∀ a k, M a k = M' a k)
    (h : wp Γ μ pc ls st cs sl w' M' Q) : wp Γ μ pc ls st cs sl w M Q := by
  intro p e R s m args below meth c H locs lc Z C hH hL hSt hS hR
  have e1 : w'.1 = w.1 := funext (fun a => (hk a).symm)
  have e2 : M' = M := funext (fun a => funext (fun k => (hM a k).symm))
  subst e2
  refine h p e R s m args below meth c H locs lc Z C ?_ hL hSt hS hR
  obtain ⟨a1, a2, a3, a4, a5, a6, a7, a8⟩ := hH
  refine ⟨by rw [← hn]; exact a1, a2, by rw [← hn, e1]; exact a3, fun i hi => ?_, by rw [e1]; exact a5, by rw [← hl 0 (Nat.zero_le _)]; exact a6, by rw [← hl 0 (Nat.zero_le _)]; exact a7, by rw [← hl 0 (Nat.zero_le _)]; exact a8⟩
  rw [← hn] at hi
  have h9 := a4 i hi
  rw [hl (i + 1) hi, show w.2.2.1 (i + 1) = w'.2.2.1 (i + 1) from funext (hr (i + 1) hi), ← e1] at h9
  exact h9
theorem upM_eq {M : MM} {a k : Nat} {x : Int} : upM M a k x a k = x := by simp [upM]
theorem upM_a {M : MM} {a k : Nat} {x : Int} {b j : Nat} (h : b ≠ a) : upM M a k x b j = M b j := by simp [upM, h]
theorem upM_k {M : MM} {a k : Nat} {x : Int} {b j : Nat} (h : j ≠ k) : upM M a k x b j = M b j := by simp [upM, h]
-- numbers
theorem andI_1 {x : Int} (h0 : 0 ≤ x) (h : x ≤ 2147483647) : andI x 1 = x % 2 := by
  obtain ⟨n, rfl⟩ := Int.eq_ofNat_of_zero_le h0
  unfold andI
  rw [so_nat (by omega), show Int32.ofInt 1 = (1 : Int32) from rfl, pk_andN (by omega) 1 (by decide), nI_toInt (by have := Nat.mod_lt n (show 0 < 2 ^ 1 by decide); omega)]
  omega
theorem andI_1N {n : Nat} (h : n ≤ 2147483647) : andI (n : Int) 1 = ((n % 2 : Nat) : Int) := by
  rw [andI_1 (by omega) (by omega)]
  rfl
theorem andI_3 {x : Int} (h0 : 0 ≤ x) (h : x ≤ 2147483647) : andI x 3 = x % 4 := by
  obtain ⟨n, rfl⟩ := Int.eq_ofNat_of_zero_le h0
  unfold andI
  rw [so_nat (by omega), show Int32.ofInt 3 = (3 : Int32) from rfl, pk_andN (by omega) 2 (by decide), nI_toInt (by have := Nat.mod_lt n (show 0 < 2 ^ 2 by decide); omega)]
  omega
theorem andI_15 {x : Int} (h0 : 0 ≤ x) (h : x ≤ 2147483647) : andI x 15 = x % 16 := by
  obtain ⟨n, rfl⟩ := Int.eq_ofNat_of_zero_le h0
  unfold andI
  rw [so_nat (by omega), show Int32.ofInt 15 = (15 : Int32) from rfl, pk_andN (by omega) 4 (by decide), nI_toInt (by have := Nat.mod_lt n (show 0 < 2 ^ 4 by decide); omega)]
  omega
theorem andI_31 (x : Int) : ∃ j : Nat, j < 32 ∧ andI x 31 = j := by
  obtain ⟨j, h1, h2⟩ := pk_andE (Int32.ofInt x) (m := (31 : Int32)) 5 (by decide)
  refine ⟨j, h1, ?_⟩
  unfold andI
  rw [show Int32.ofInt 31 = (31 : Int32) from rfl, h2, nI_toInt (by omega)]
theorem orI_add {a b k : Nat} (h : b < 2 ^ k) (hk : 2 ^ k * a + b < 2 ^ 31) : orI ((2 ^ k * a : Nat) : Int) (b : Int) = ((2 ^ k * a + b : Nat) : Int) := by
  unfold orI
  have e : nI (2 ^ k * a) ||| nI b = nI (2 ^ k * a + b) := by
    apply Int32.toBitVec_inj.mp
    apply BitVec.eq_of_toNat_eq
    show ((nI (2 ^ k * a)).toBitVec ||| (nI b).toBitVec).toNat = _
    rw [BitVec.toNat_or, pk_tn (by omega), pk_tn (by omega), pk_tn (by omega), Nat.two_pow_add_eq_or_of_lt h]
  rw [so_nat (by omega), so_nat (by omega), e, nI_toInt hk]
theorem pw9 {s : Nat} (h : s ≤ 9) : 1 ≤ 2 ^ s ∧ 2 ^ s ≤ 512 := ⟨Nat.one_le_two_pow, Nat.pow_le_pow_right (by decide) h⟩
theorem pw31 {s : Nat} (h : s ≤ 30) : 1 ≤ 2 ^ s ∧ 2 ^ s ≤ 1073741824 := ⟨Nat.one_le_two_pow, Nat.pow_le_pow_right (by decide) h⟩
theorem shN (p s : Nat) : (p : Int) * 2 ^ ((s : Int).toNat) = ((p * 2 ^ s : Nat) : Int) := by
  rw [Int.toNat_natCast, Int.natCast_mul, Int.natCast_pow]; rfl
theorem srN (p s : Nat) : (p : Int) / 2 ^ ((s : Int).toNat) = ((p / 2 ^ s : Nat) : Int) := by
  rw [Int.toNat_natCast, Int.natCast_ediv, Int.natCast_pow]; rfl
/-- what comes of an adder of two values -/
def cms (p s q f : Nat) : Nat := if f = 0 then p * 2 ^ s + q else if f = 1 then (p * 2 ^ s - q) + (q - p * 2 ^ s) else if f = 2 then p + q * 2 ^ s else (p - q * 2 ^ s) + (q * 2 ^ s - p)
def hvF : Nat → Nat → Nat
  | 0, _ => 0
  | k + 1, n => if n % 2 = 0 ∧ n ≠ 0 then hvF k (n / 2) + 1 else 0
/-- how often a number is halved till it is odd (below 2048) -/
def hv (n : Nat) : Nat := hvF 11 n
def odp (n : Nat) : Nat := n / 2 ^ hv n
theorem hvF_le : ∀ k n, hvF k n ≤ k
  | 0, _ => Nat.le_refl _
  | k + 1, n => by
    have := hvF_le k (n / 2)
    unfold hvF
    split <;> omega
theorem hv_le (n : Nat) : hv n ≤ 11 := hvF_le 11 n
theorem hvF_div : ∀ k n, n / 2 ^ hvF k n * 2 ^ hvF k n = n
  | 0, n => by simp [hvF]
  | k + 1, n => by
    unfold hvF
    split
    · rename_i h
      have ih := hvF_div k (n / 2)
      have h2 : n = n / 2 * 2 := by omega
      generalize hvF k (n / 2) = j at ih ⊢
      rw [Nat.pow_succ, Nat.mul_comm (2 ^ j) 2, ← Nat.div_div_eq_div_mul, Nat.mul_comm 2, ← Nat.mul_assoc, ih]
      omega
    · simp
theorem odp_mul (n : Nat) : odp n * 2 ^ hv n = n := hvF_div 11 n
theorem hvF_odd : ∀ k n, n ≠ 0 → n < 2 ^ k → (n / 2 ^ hvF k n) % 2 = 1
  | 0, n, h0, h => by simp at h; omega
  | k + 1, n, h0, h => by
    unfold hvF
    split
    · rename_i h9
      have ih := hvF_odd k (n / 2) (by omega) (by rw [Nat.pow_succ] at h; omega)
      generalize hvF k (n / 2) = j at ih ⊢
      rw [Nat.pow_succ, Nat.mul_comm (2 ^ j) 2, ← Nat.div_div_eq_div_mul]
      exact ih
    · simp; omega
theorem odp_odd {n : Nat} (h0 : n ≠ 0) (h : n < 2048) : odp n % 2 = 1 := hvF_odd 11 n h0 h
theorem odp_le (n : Nat) : odp n ≤ n := Nat.div_le_self _ _
theorem odp_0 : odp 0 = 0 := by decide
theorem odp_pos {n : Nat} (h0 : n ≠ 0) : 1 ≤ odp n := by
  have h1 := odp_mul n
  apply Nat.pos_of_ne_zero
  intro q
  rw [q] at h1
  omega
/-- the odd part is the only odd number that makes the number by doubling -/
theorem odd_uniq : ∀ {i j a b : Nat}, a % 2 = 1 → b % 2 = 1 → a * 2 ^ i = b * 2 ^ j → a = b ∧ i = j
  | 0, 0, a, b, _, _, h => by simp at h; exact ⟨h, rfl⟩
  | 0, j + 1, a, b, ha, _, h => by
    rw [Nat.pow_zero, Nat.pow_succ, ← Nat.mul_assoc] at h
    omega
  | i + 1, 0, a, b, _, hb, h => by
    rw [Nat.pow_zero, Nat.pow_succ, ← Nat.mul_assoc] at h
    omega
  | i + 1, j + 1, a, b, ha, hb, h => by
    rw [Nat.pow_succ, Nat.pow_succ, ← Nat.mul_assoc, ← Nat.mul_assoc] at h
    obtain ⟨h1, h2⟩ := odd_uniq (i := i) (j := j) ha hb (by omega)
    exact ⟨h1, by omega⟩
theorem odp_iff {n v : Nat} (h0 : n ≠ 0) (h : n < 2048) (hv1 : v % 2 = 1) : odp n = v ↔ ∃ d, n = v * 2 ^ d := by
  constructor
  · intro e
    exact ⟨hv n, by rw [← e, odp_mul]⟩
  · rintro ⟨d, hd⟩
    exact (odd_uniq (odp_odd h0 h) hv1 ((odp_mul n).trans hd)).1
-- the class's own numbers
section Leaf
variable {Γ : GG} {w : Wd} {M : MM} {Q : QT}
set_option maxRecDepth 20000 in
theorem c_comes (hG : GOK Γ) {pI sI qI fI : Int} {p s q f : Nat} (ep : pI = p) (es : sI = s) (eq : qI = q) (ef : fI = f) (hp : p ≤ 1023) (hs : s ≤ 9) (hq : q ≤ 1023) (hf : f ≤ 3) (h : Q (some (VI (cms p s q f : Nat))) w M) : wp Γ mX9_comes 0 [some (VI pI), some (VI sI), some (VI qI), some (VI fI)] [] 0 0 w M Q := by
  subst ep es eq ef
  have h1 := pw9 hs
  have h2 : p * 2 ^ s ≤ 1023 * 512 := Nat.mul_le_mul hp h1.2
  have h3 : q * 2 ^ s ≤ 1023 * 512 := Nat.mul_le_mul hq h1.2
  have e2 := shN p s
  have e3 := shN q s
  unfold cms at h
  refine vc_go hG 40 (B := bX9_comes) rfl ?_
  refine And.intro (fun a => ?_) (And.intro (fun a => ?_) (And.intro (fun a => ?_) (And.intro (fun a => ?_) trivial)))
  · have hf3 : f = 3 := by omega
    rw [hf3] at h
    refine And.intro ⟨by omega, by omega, by omega, by rw [e3]; omega⟩ ?_
    rw [e3]
    refine And.intro (by omega) ?_
    refine And.intro (by omega) ?_
    have e : (if (p : Int) - ((q * 2 ^ s : Nat) : Int) < 0 then -((p : Int) - ((q * 2 ^ s : Nat) : Int)) else (p : Int) - ((q * 2 ^ s : Nat) : Int)) = (((p - q * 2 ^ s) + (q * 2 ^ s - p) : Nat) : Int) := by split <;> omega
    rw [e]
    exact h
  · have hf3 : f = 0 := by omega
    rw [hf3] at h
    refine And.intro ⟨by omega, by omega, by omega, by rw [e2]; omega⟩ ?_
    rw [e2]
    refine And.intro (by omega) ?_
    exact h
  · have hf3 : f = 1 := by omega
    rw [hf3] at h
    refine And.intro ⟨by omega, by omega, by omega, by rw [e2]; omega⟩ ?_
    rw [e2]
    refine And.intro (by omega) ?_
    refine And.intro (by omega) ?_
    have e : (if ((p * 2 ^ s : Nat) : Int) - (q : Int) < 0 then -(((p * 2 ^ s : Nat) : Int) - (q : Int)) else ((p * 2 ^ s : Nat) : Int) - (q : Int)) = (((p * 2 ^ s - q) + (q - p * 2 ^ s) : Nat) : Int) := by split <;> omega
    rw [e]
    exact h
  · have hf3 : f = 2 := by omega
    rw [hf3] at h
    refine And.intro ⟨by omega, by omega, by omega, by rw [e3]; omega⟩ ?_
    rw [e3]
    refine And.intro (by omega) ?_
    exact h
theorem l_halvings (hG : GOK Γ) {n : Nat} (hn : n ≤ 2147483647) : ∀ (j k : Nat), k + j = 11 → n / 2 ^ k * 2 ^ k = n → Q (some (VI ((k + hvF j (n / 2 ^ k) : Nat)))) w M → wp Γ mX9_halvings 2 [some (VI n), some (VI k)] [] 0 0 w M Q := by
  intro j
  induction j with
  | zero =>
    intro k hk hd h
    refine vc_go hG 40 (B := bX9_halvings) rfl ?_
    refine And.intro (fun a => ?_) (fun a => by omega)
    have e : k + hvF 0 (n / 2 ^ k) = k := rfl
    rw [e] at h
    exact h
  | succ j ih =>
    intro k hk hd h
    have hs := srN n k
    have hle : n / 2 ^ k ≤ n := Nat.div_le_self _ _
    refine vc_go hG 40 (B := bX9_halvings) rfl ?_
    refine And.intro (fun a => by omega) (fun a => ?_)
    refine And.intro (fun b => ?_) (fun b => ?_)
    · have hn0 : n = 0 := by omega
      subst hn0
      have e : k + hvF (j + 1) (0 / 2 ^ k) = k := by simp [hvF]
      rw [e] at h
      exact h
    · have hnz : n / 2 ^ k ≠ 0 := by
        intro q
        rw [q] at hd
        omega
      refine And.intro ⟨by omega, by omega, by omega⟩ ?_
      rw [hs]
      refine And.intro (fun c => ?_) (fun c => ?_)
      · rw [andI_1N (Nat.le_trans hle hn)] at c
        have e : k + hvF (j + 1) (n / 2 ^ k) = k := by
          unfold hvF
          rw [if_neg (fun z => c (by rw [z.1]; rfl))]
          rfl
        rw [e] at h
        exact h
      · rw [andI_1N (Nat.le_trans hle hn)] at c
        refine And.intro (by omega) ?_
        refine ih (k + 1) (by omega) ?_ ?_
        · rw [Nat.pow_succ, ← Nat.div_div_eq_div_mul, Nat.mul_comm (2 ^ k) 2, ← Nat.mul_assoc]
          have c1 : n / 2 ^ k % 2 = 0 := Int.ofNat.inj c
          have : n / 2 ^ k / 2 * 2 = n / 2 ^ k := by omega
          rw [this]
          exact hd
        · have e : k + hvF (j + 1) (n / 2 ^ k) = k + 1 + hvF j (n / 2 ^ (k + 1)) := by
            rw [hvF, if_pos ⟨Int.ofNat.inj c, hnz⟩, Nat.pow_succ, ← Nat.div_div_eq_div_mul]
            omega
          rw [e] at h
          exact h
theorem c_halvings (hG : GOK Γ) {nI : Int} {n : Nat} (en : nI = n) (hn : n ≤ 2147483647) (h : Q (some (VI (hv n : Nat))) w M) : wp Γ mX9_halvings 0 [some (VI nI)] [] 0 0 w M Q := by
  subst en
  refine vc_go hG 40 (B := bX9_halvings) rfl ?_
  refine l_halvings hG hn 11 0 rfl (by simp) ?_
  rw [Nat.zero_add, Nat.pow_zero, Nat.div_one]
  exact h
theorem c_oddPart (hG : GOK Γ) {nI : Int} {n : Nat} (en : nI = n) (hn : n ≤ 2147483647) (h : Q (some (VI (odp n : Nat))) w M) : wp Γ mX9_oddPart 0 [some (VI nI)] [] 0 0 w M Q := by
  subst en
  refine vc_go hG 40 (B := bX9_oddPart) rfl ?_
  refine c_halvings hG rfl hn ?_
  have h1 := hv_le n
  refine And.intro ⟨by omega, by omega, by omega⟩ ?_
  rw [srN]
  exact h
def isOddN (v : Int) : Prop := 1 ≤ v ∧ v ≤ 1023 ∧ v % 2 = 1
theorem c_isOddNumber (hG : GOK Γ) {v : Int} (h1 : isOddN v → Q (some (VI 1)) w M) (h0 : ¬ isOddN v → Q (some (VI 0)) w M) : wp Γ mX9_isOddNumber 0 [some (VI v)] [] 0 0 w M Q := by
  unfold isOddN at h1 h0
  refine vc_go hG 40 (B := bX9_isOddNumber) rfl ?_
  refine And.intro (fun a => And.intro (Or.inl rfl) (h0 (by omega))) (fun a => ?_)
  refine And.intro (fun b => And.intro (Or.inl rfl) (h0 (by omega))) (fun b => ?_)
  refine And.intro (fun c => And.intro (Or.inl rfl) (h0 ?_)) (fun c => And.intro (Or.inr rfl) (h1 ?_))
  · rw [andI_1 (by omega) (by omega)] at c; omega
  · rw [andI_1 (by omega) (by omega)] at c; omega
-- Way: an adder as one number
def cdw (p q s f : Nat) : Nat := 1024 * p + 64 * q + 4 * s + f
theorem c_wayOf (hG : GOK Γ) {pI qI sI fI : Int} {p q s f : Nat} (ep : pI = p) (eq : qI = q) (es : sI = s) (ef : fI = f) (hp : p ≤ 12) (hq : q ≤ 12) (hs : s ≤ 9) (hf : f ≤ 3) (h : Q (some (VI (cdw p q s f : Nat))) w M) : wp Γ mX8_of 0 [some (VI pI), some (VI qI), some (VI sI), some (VI fI)] [] 0 0 w M Q := by
  subst ep eq es ef
  have e1 := shN p 10
  have e2 := shN q 6
  have e3 := shN s 2
  refine vc_go hG 40 (B := bX8_of) rfl ?_
  refine And.intro ⟨by omega, by omega, by omega, ?_⟩ ?_
  · have : (p : Int) * 2 ^ ((10 : Int).toNat) = ((p * 2 ^ 10 : Nat) : Int) := e1
    rw [this]; omega
  refine And.intro ⟨by omega, by omega, by omega, ?_⟩ ?_
  · have : (q : Int) * 2 ^ ((6 : Int).toNat) = ((q * 2 ^ 6 : Nat) : Int) := e2
    rw [this]; omega
  refine And.intro ⟨by omega, by omega, by omega, ?_⟩ ?_
  · have : (s : Int) * 2 ^ ((2 : Int).toNat) = ((s * 2 ^ 2 : Nat) : Int) := e3
    rw [this]; omega
  have o1 : orI ((p : Int) * 2 ^ ((10 : Int).toNat)) ((q : Int) * 2 ^ ((6 : Int).toNat)) = ((1024 * p + 64 * q : Nat) : Int) := by
    have := orI_add (a := p) (b := 64 * q) (k := 10) (by omega) (by omega)
    rw [show (p : Int) * 2 ^ ((10 : Int).toNat) = ((2 ^ 10 * p : Nat) : Int) from e1.trans (by rw [Nat.mul_comm]), show (q : Int) * 2 ^ ((6 : Int).toNat) = ((64 * q : Nat) : Int) from e2.trans (by rw [Nat.mul_comm])]
    exact this
  have o2 : orI ((1024 * p + 64 * q : Nat) : Int) ((s : Int) * 2 ^ ((2 : Int).toNat)) = ((1024 * p + 64 * q + 4 * s : Nat) : Int) := by
    have := orI_add (a := 16 * p + q) (b := 4 * s) (k := 6) (by omega) (by omega)
    rw [show (s : Int) * 2 ^ ((2 : Int).toNat) = ((4 * s : Nat) : Int) from e3.trans (by rw [Nat.mul_comm])]
    rw [show 2 ^ 6 * (16 * p + q) = 1024 * p + 64 * q by omega] at this
    exact this
  have o3 : orI ((1024 * p + 64 * q + 4 * s : Nat) : Int) (f : Int) = ((cdw p q s f : Nat) : Int) := by
    have := orI_add (a := 256 * p + 16 * q + s) (b := f) (k := 2) (by omega) (by omega)
    rw [show 2 ^ 2 * (256 * p + 16 * q + s) = 1024 * p + 64 * q + 4 * s by omega] at this
    exact this
  show Q (some (VI (orI (orI (orI ((p : Int) * 2 ^ ((10 : Int).toNat)) ((q : Int) * 2 ^ ((6 : Int).toNat))) ((s : Int) * 2 ^ ((2 : Int).toNat))) (f : Int)))) w M
  rw [o1, o2, o3]
  exact h
theorem c_wayP (hG : GOK Γ) {cI : Int} {c : Nat} (ec : cI = c) (hc : c ≤ 2147483647) (h : Q (some (VI (c / 1024 : Nat))) w M) : wp Γ mX8_p 0 [some (VI cI)] [] 0 0 w M Q := by
  subst ec
  refine vc_go hG 40 (B := bX8_p) rfl ?_
  refine And.intro ⟨by omega, by omega, by omega⟩ ?_
  rw [show (c : Int) / 2 ^ ((10 : Int).toNat) = ((c / 1024 : Nat) : Int) from srN c 10]
  exact h
theorem c_wayQ (hG : GOK Γ) {cI : Int} {c : Nat} (ec : cI = c) (hc : c ≤ 2147483647) (h : Q (some (VI (c / 64 % 16 : Nat))) w M) : wp Γ mX8_q 0 [some (VI cI)] [] 0 0 w M Q := by
  subst ec
  refine vc_go hG 40 (B := bX8_q) rfl ?_
  refine And.intro ⟨by omega, by omega, by omega⟩ ?_
  show Q (some (VI (andI ((c : Int) / 2 ^ ((6 : Int).toNat)) 15))) w M
  rw [show (c : Int) / 2 ^ ((6 : Int).toNat) = ((c / 64 : Nat) : Int) from srN c 6, andI_15 (by omega) (by omega)]
  exact h
theorem c_wayS (hG : GOK Γ) {cI : Int} {c : Nat} (ec : cI = c) (hc : c ≤ 2147483647) (h : Q (some (VI (c / 4 % 16 : Nat))) w M) : wp Γ mX8_shift 0 [some (VI cI)] [] 0 0 w M Q := by
  subst ec
  refine vc_go hG 40 (B := bX8_shift) rfl ?_
  refine And.intro ⟨by omega, by omega, by omega⟩ ?_
  show Q (some (VI (andI ((c : Int) / 2 ^ ((2 : Int).toNat)) 15))) w M
  rw [show (c : Int) / 2 ^ ((2 : Int).toNat) = ((c / 4 : Nat) : Int) from srN c 2, andI_15 (by omega) (by omega)]
  exact h
theorem c_wayF (hG : GOK Γ) {cI : Int} {c : Nat} (ec : cI = c) (hc : c ≤ 2147483647) (h : Q (some (VI (c % 4 : Nat))) w M) : wp Γ mX8_form 0 [some (VI cI)] [] 0 0 w M Q := by
  subst ec
  refine vc_go hG 40 (B := bX8_form) rfl ?_
  show Q (some (VI (andI (c : Int) 3))) w M
  rw [andI_3 (by omega) (by omega)]
  exact h
end Leaf
