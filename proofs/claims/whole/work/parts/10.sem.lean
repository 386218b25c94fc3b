/-! ===== an abstract machine over the kit's rows: values are whole numbers, long numbers, references by number; cells by number ===== -/
abbrev AV : Type := Int ⊕ (Int ⊕ Option Nat)
abbrev Wd : Type := (Nat → Nat) × (Nat → Nat) × (Nat → Nat → Option Nat) × Nat
abbrev MM : Type := Nat → Nat → Int
abbrev LL : Type := List (Option AV)
abbrev KT : Type := Nat → LL → List AV → Nat → Nat → Wd → MM → Prop
abbrev QT : Type := Option AV → Wd → MM → Prop
abbrev VI (z : Int) : AV := .inl z
abbrev VL (z : Int) : AV := .inr (.inl z)
abbrev VR (a : Nat) : AV := .inr (.inr (some a))
abbrev inRL (z : Int) : Prop := -9223372036854775808 ≤ z ∧ z ≤ 9223372036854775807
def getL : LL → Nat → Option AV
  | [], _ => none
  | x :: _, 0 => x
  | _ :: xs, i + 1 => getL xs i
def setL : LL → Nat → AV → LL
  | [], 0, v => [some v]
  | [], i + 1, v => none :: setL [] i v
  | _ :: xs, 0, v => some v :: xs
  | x :: xs, i + 1, v => x :: setL xs i v
def argL : Nat → List AV → LL → LL
  | 0, _, acc => acc
  | _ + 1, [], acc => acc
  | n + 1, x :: xs, acc => argL n xs (some x :: acc)
def upM (M : MM) (a k : Nat) (x : Int) : MM := fun a' k' => if a' = a ∧ k' = k then x else M a' k'
def cpM (M : MM) (a b n : Nat) : MM := fun a' k' => if a' = b ∧ k' < n then M a k' else M a' k'
def zrM (M : MM) (a : Nat) : MM := fun a' k' => if a' = a then 0 else M a' k'
def upN {α : Type} (f : Nat → α) (a : Nat) (x : α) : Nat → α := fun a' => if a' = a then x else f a'
def upR (f : Nat → Nat → Option Nat) (a k : Nat) (x : Option Nat) : Nat → Nat → Option Nat := fun a' k' => if a' = a ∧ k' = k then x else f a' k'
/-- the machine's world gets one cell more -/
def nwW (w : Wd) (kd ln : Nat) : Wd := (upN w.1 (w.2.2.2 + 1) kd, upN w.2.1 (w.2.2.2 + 1) ln, upN w.2.2.1 (w.2.2.2 + 1) (fun _ => none), w.2.2.2 + 1)
/-- an array of N int arrays of K places comes: the outer one first -/
def mnW (w : Wd) (N K : Nat) : Wd :=
  (fun a => if a = w.2.2.2 + 1 then 2 else if w.2.2.2 + 1 < a ∧ a ≤ w.2.2.2 + 1 + N then 0 else w.1 a,
   fun a => if a = w.2.2.2 + 1 then N else if w.2.2.2 + 1 < a ∧ a ≤ w.2.2.2 + 1 + N then K else w.2.1 a,
   fun a => if a = w.2.2.2 + 1 then (fun j => if j < N then some (w.2.2.2 + 2 + j) else none) else if w.2.2.2 + 1 < a ∧ a ≤ w.2.2.2 + 1 + N then (fun _ => none) else w.2.2.1 a,
   w.2.2.2 + 1 + N)
def mnM (M : MM) (n N : Nat) : MM := fun a k => if n < a ∧ a ≤ n + 1 + N then 0 else M a k
def rfW (w : Wd) (a k : Nat) (x : Option Nat) : Wd := (w.1, w.2.1, upR w.2.2.1 a k x, w.2.2.2)
abbrev GG : Type := Launch × va_G × (Nat → ClassId) × Nat × Nat × Cell
abbrev gl (Γ : GG) : Launch := Γ.1
abbrev gD (Γ : GG) : va_G := Γ.2.1
abbrev gA (Γ : GG) : Nat → ClassId := Γ.2.2.1
abbrev gb (Γ : GG) : Nat := Γ.2.2.2.1
abbrev gB (Γ : GG) : Nat := Γ.2.2.2.2.1
abbrev gs (Γ : GG) : Cell := Γ.2.2.2.2.2
def adr (Γ : GG) : Nat → Nat
  | 0 => gb Γ
  | i + 1 => gB Γ + i
def cV (Γ : GG) : AV → Value
  | .inl z => .int (Int32.ofInt z)
  | .inr (.inl z) => .long (Int64.ofInt z)
  | .inr (.inr r) => va_rf (r.map (adr Γ))
def okV : AV → Prop
  | .inl z => inR z
  | .inr (.inl z) => inRL z
  | .inr (.inr _) => True
def obV (Γ : GG) (c : Nat) (rf : Nat → Option Nat) (f : Nat → Int) (k : Nat) : Value := bif Nat.beq (fkOf c k) 2 then va_rf ((rf k).map (adr Γ)) else .int (Int32.ofInt (f k))
def arI (Γ : GG) (t n : Nat) (f : Nat → Int) : Cell := arrV (gA Γ t) n (fun j => .int (Int32.ofInt (f j)))
def arR (Γ : GG) (t n : Nat) (f : Nat → Option Nat) : Cell := arrV (gA Γ t) n (fun j => va_rf ((f j).map (adr Γ)))
def cellAt (Γ : GG) (kd n : Nat) (rf : Nat → Option Nat) (f : Nat → Int) (H : Heap) (i : Nat) : Prop := match kd with
  | 0 => H[adr Γ i]? = some (arI Γ 0 n f)
  | 1 => H[adr Γ i]? = some (arI Γ 1 n f)
  | 2 => H[adr Γ i]? = some (arR Γ 2 n rf)
  | 3 => H[adr Γ i]? = some (arR Γ 3 n rf)
  | c + 4 => ∃ r : vw_C, vwCl[c]? = some r ∧ t_OB (adr Γ i) ((gD Γ).1 c) r.2.2 ((gD Γ).2 c) H (obV Γ c rf f)
/-- what a heap holds of a world and its numbers -/
def HR (Γ : GG) (w : Wd) (M : MM) (H : Heap) : Prop :=
  H.size = gB Γ + w.2.2.2 ∧ (∀ a k, inR (M a k)) ∧ (∀ a, w.2.2.2 < a → w.1 a = 15) ∧ (∀ i, i < w.2.2.2 → cellAt Γ (w.1 (i + 1)) (w.2.1 (i + 1)) (w.2.2.1 (i + 1)) (M (i + 1)) H (i + 1)) ∧
  w.1 0 = 14 ∧ (gs Γ).slots.size = w.2.1 0 ∧ w.2.1 0 < 2147483648 ∧ ∀ j, j < w.2.1 0 → (gs Γ).slots[j]? = some (.int (Int32.ofInt (M 0 j)))
abbrev tyG (Γ : GG) : List (ClassId × FieldType) := [(gA Γ 0, .int), (gA Γ 1, .boolean), (gA Γ 2, .array .int), (gA Γ 3, .object "ShiftAdds$Graph")]
def neW : Jvm.Cond → Bool
  | .methodLinkNest .. => true
  | _ => false
/-- what the tables say beside the words that a callee may take on trust -/
def KF (Γ : GG) (s : State) : Prop := va_K (gD Γ) vwCl (tyG Γ) s ∧ s.isArrayOf (gs Γ) .int ∧ (∀ w ∈ lw_tbl, neW w = true → va_Nw w s) ∧ va_AO "ShiftAdds$Graph" s ∧ ∃ k : Class, s.vm.classes[gA Γ 2]? = some k ∧ k.kind = .array (gA Γ 0) (.array .int)
abbrev gQ (Γ : GG) : Nat → Prop := fun q => gB Γ ≤ q
def Cx (Γ : GG) (μ : Nat) (p : Program) (R : Room) (s : State) (m : MethodId) (args : Array Value) (meth : Method) (c : Code) : Prop :=
  p.tables.exec = Jvm.exec ∧ c.code = mcode μ ∧ meth.sig.returnType = mret μ ∧ c.maxLocals = mxl μ ∧ s.vm.findClass (my μ).cls = some m.cls ∧ (∀ w ∈ gdT, w.before args s = true) ∧ meth.locks = false ∧ ((my μ).name = "<init>" → meth.name = "<init>") ∧ KF Γ s ∧
  (mdp μ ≤ R.frames ∧ 37 * mdp μ ≤ R.locals ∧ mmc μ ≤ R.cells ∧ mms μ ≤ R.slots) ∧ (gs Γ).vm ≠ .unknown ∧ gB Γ ≤ s.heap.size ∧ gb Γ < gB Γ ∧ s.heap[gb Γ]? = some (gs Γ)
def LR (Γ : GG) (μ : Nat) (ls : LL) (lc : Array Slot) : Prop := lc.size = mxl μ ∧ lv_wf lc ∧ ∀ i v, getL ls i = some v → lc[i]? = some (.val (cV Γ v)) ∧ okV v ∧ (cV Γ v).category = 1
def okR (ret : Option FieldType) (v : Option AV) : Prop := match v with
  | none => ret = none
  | some (.inl x) => (ret = some .int ∧ inR x) ∨ (ret = some .boolean ∧ (x = 0 ∨ x = 1))
  | some (.inr (.inl x)) => ret = some .long ∧ inRL x
  | some (.inr (.inr (some _))) => ∃ n, ret = some (.object n)
  | some (.inr (.inr none)) => False
def rins (v : Option AV) : Instr := match v with
  | none => .return_
  | some (.inl _) => .ireturn
  | some (.inr (.inl _)) => .lreturn
  | some (.inr (.inr _)) => .areturn
def rvs (v : Option AV) : List AV := match v with
  | none => []
  | some x => [x]
def RetP (Γ : GG) (μ : Nat) (p : Program) (e : Env) (R : Room) (s : State) (m : MethodId) (args : Array Value) (below : List Frame) (meth : Method) (c : Code) (Z : State → Prop) (Q : QT) : Prop :=
  ∀ (v : Option AV) (w : Wd) (M : MM) (H : Heap) (locs : List Loc) (pc : Nat) (lc : Array Slot), Q v w M → okR (mret μ) v → HR Γ w M H → va_S (gQ Γ) s.heap H locs → decode (mcode μ) pc = .ok (rins v, 1) →
    W p (gl Γ) e R s m args below meth c H locs (mmc μ) (mms μ) Z (F0 m pc lc ((rvs v).map (cV Γ)))
/-- from pc on, with these locals, this stack, this world: the method comes to its end with Q -/
def wp (Γ : GG) (μ pc : Nat) (ls : LL) (st : List AV) (cs sl : Nat) (w : Wd) (M : MM) (Q : QT) : Prop :=
  ∀ (p : Program) (e : Env) (R : Room) (s : State) (m : MethodId) (args : Array Value) (below : List Frame) (meth : Method) (c : Code) (H : Heap) (locs : List Loc) (lc : Array Slot) (Z : State → Prop),
    Cx Γ μ p R s m args meth c → HR Γ w M H → LR Γ μ ls lc → (∀ v ∈ st, okV v) → va_S (gQ Γ) s.heap H locs → RetP Γ μ p e R s m args below meth c Z Q →
    W p (gl Γ) e R s m args below meth c H locs cs sl Z (F0 m pc lc (st.map (cV Γ)))
-- the stack's top
def popI (st : List AV) (P : Int → List AV → Prop) : Prop := match st with
  | .inl x :: st => P x st
  | _ => False
def popII (st : List AV) (P : Int → Int → List AV → Prop) : Prop := match st with
  | .inl y :: .inl x :: st => P x y st
  | _ => False
def popA (st : List AV) (P : Nat → List AV → Prop) : Prop := match st with
  | .inr (.inr (some a)) :: st => P a st
  | _ => False
def popIA (st : List AV) (P : Int → Nat → List AV → Prop) : Prop := match st with
  | .inl x :: .inr (.inr (some a)) :: st => P x a st
  | _ => False
def popIIA (st : List AV) (P : Int → Int → Nat → List AV → Prop) : Prop := match st with
  | .inl x :: .inl i :: .inr (.inr (some a)) :: st => P x i a st
  | _ => False
def popAA (st : List AV) (P : Nat → Nat → List AV → Prop) : Prop := match st with
  | .inr (.inr (some b)) :: .inr (.inr (some a)) :: st => P b a st
  | _ => False
def popAIA (st : List AV) (P : Nat → Int → Nat → List AV → Prop) : Prop := match st with
  | .inr (.inr (some b)) :: .inl i :: .inr (.inr (some a)) :: st => P b i a st
  | _ => False
def popLL (st : List AV) (P : Int → Int → List AV → Prop) : Prop := match st with
  | .inr (.inl y) :: .inr (.inl x) :: st => P x y st
  | _ => False
def popV (st : List AV) (P : AV → List AV → Prop) : Prop := match st with
  | .inl x :: st => P (.inl x) st
  | .inr (.inr r) :: st => P (.inr (.inr r)) st
  | _ => False
def popVV (st : List AV) (P : AV → AV → List AV → Prop) : Prop := popV st (fun x st => popV st (fun y st => P x y st))
def popC (st : List AV) (P : Nat → Int → Nat → Int → Int → List AV → Prop) : Prop := match st with
  | .inl n :: .inl dp :: .inr (.inr (some b)) :: .inl sp :: .inr (.inr (some a)) :: st => P a sp b dp n st
  | _ => False
theorem popI_ex {st : List AV} {P : Int → List AV → Prop} (h : popI st P) : ∃ x st', st = .inl x :: st' ∧ P x st' := by
  unfold popI at h; split at h <;> first | exact ⟨_, _, rfl, h⟩ | exact h.elim
theorem popII_ex {st : List AV} {P : Int → Int → List AV → Prop} (h : popII st P) : ∃ x y st', st = .inl y :: .inl x :: st' ∧ P x y st' := by
  unfold popII at h; split at h <;> first | exact ⟨_, _, _, rfl, h⟩ | exact h.elim
theorem popA_ex {st : List AV} {P : Nat → List AV → Prop} (h : popA st P) : ∃ a st', st = VR a :: st' ∧ P a st' := by
  unfold popA at h; split at h <;> first | exact ⟨_, _, rfl, h⟩ | exact h.elim
theorem popIA_ex {st : List AV} {P : Int → Nat → List AV → Prop} (h : popIA st P) : ∃ x a st', st = .inl x :: VR a :: st' ∧ P x a st' := by
  unfold popIA at h; split at h <;> first | exact ⟨_, _, _, rfl, h⟩ | exact h.elim
theorem popIIA_ex {st : List AV} {P : Int → Int → Nat → List AV → Prop} (h : popIIA st P) : ∃ x i a st', st = .inl x :: .inl i :: VR a :: st' ∧ P x i a st' := by
  unfold popIIA at h; split at h <;> first | exact ⟨_, _, _, _, rfl, h⟩ | exact h.elim
theorem popAA_ex {st : List AV} {P : Nat → Nat → List AV → Prop} (h : popAA st P) : ∃ b a st', st = VR b :: VR a :: st' ∧ P b a st' := by
  unfold popAA at h; split at h <;> first | exact ⟨_, _, _, rfl, h⟩ | exact h.elim
theorem popAIA_ex {st : List AV} {P : Nat → Int → Nat → List AV → Prop} (h : popAIA st P) : ∃ b i a st', st = VR b :: .inl i :: VR a :: st' ∧ P b i a st' := by
  unfold popAIA at h; split at h <;> first | exact ⟨_, _, _, _, rfl, h⟩ | exact h.elim
theorem popLL_ex {st : List AV} {P : Int → Int → List AV → Prop} (h : popLL st P) : ∃ x y st', st = VL y :: VL x :: st' ∧ P x y st' := by
  unfold popLL at h; split at h <;> first | exact ⟨_, _, _, rfl, h⟩ | exact h.elim
theorem popV_ex {st : List AV} {P : AV → List AV → Prop} (h : popV st P) : ∃ v st', st = v :: st' ∧ (∀ Γ, (cV Γ v).category = 1) ∧ P v st' := by
  unfold popV at h
  split at h
  · exact ⟨_, _, rfl, fun _ => rfl, h⟩
  · rename_i r st'
    exact ⟨_, _, rfl, fun _ => by cases r <;> rfl, h⟩
  · exact h.elim
theorem popC_ex {st : List AV} {P : Nat → Int → Nat → Int → Int → List AV → Prop} (h : popC st P) : ∃ a sp b dp n st', st = .inl n :: .inl dp :: VR b :: .inl sp :: VR a :: st' ∧ P a sp b dp n st' := by
  unfold popC at h; split at h <;> first | exact ⟨_, _, _, _, _, _, rfl, h⟩ | exact h.elim
def brk (q : Jvm.ClassFile.Cond) (x y : Int) (A B : Prop) : Prop := match q with
  | .eq => (x = y → A) ∧ (¬ x = y → B)
  | .ne => (¬ x = y → A) ∧ (x = y → B)
  | .lt => (x < y → A) ∧ (y ≤ x → B)
  | .ge => (y ≤ x → A) ∧ (x < y → B)
  | .gt => (y < x → A) ∧ (x ≤ y → B)
  | .le => (x ≤ y → A) ∧ (y < x → B)
def andI (x y : Int) : Int := (Int32.ofInt x &&& Int32.ofInt y).toInt
def orI (x y : Int) : Int := (Int32.ofInt x ||| Int32.ofInt y).toInt
def swT (x : Int) (K : Nat → Prop) : Int → List Nat → Prop
  | _, [] => True
  | v, t :: ts => (x = v → K t) ∧ swT x K (v + 1) ts
def swL (x : Int) (K : Nat → Prop) (d : Nat) : List (Int × Int) → List Nat → Prop
  | [], _ => K d
  | q :: qs, t :: ts => (x = q.1 → K t) ∧ (¬ x = q.1 → swL x K d qs ts)
  | _ :: _, [] => False
def cats : List AV → Nat
  | [] => 0
  | .inr (.inl _) :: st => 2 + cats st
  | _ :: st => 1 + cats st
/-- a test that the numbers of a call decide -/
def gd (b : Bool) (X : Prop) : Prop := bif b then X else False
theorem gd_ex {b : Bool} {X : Prop} (h : gd b X) : b = true ∧ X := by
  cases b
  · exact h.elim
  · exact ⟨rfl, h⟩
def rmk (μ cs sl : Nat) : Bool := Nat.ble cs (mmc μ) && Nat.ble sl (mms μ)
theorem rmk_le {μ cs sl : Nat} (h : rmk μ cs sl = true) : cs ≤ mmc μ ∧ sl ≤ mms μ := by
  unfold rmk at h
  rw [Bool.and_eq_true] at h
  exact ⟨Nat.le_of_ble_eq_true h.1, Nat.le_of_ble_eq_true h.2⟩
def ldI (K : KT) (k n pc : Nat) (ls : LL) (st : List AV) (cs sl : Nat) (w : Wd) (M : MM) : Prop := match getL ls k with
  | some (.inl x) => K (pc + n) ls (.inl x :: st) cs sl w M
  | _ => False
def ldA (K : KT) (k n pc : Nat) (ls : LL) (st : List AV) (cs sl : Nat) (w : Wd) (M : MM) : Prop := match getL ls k with
  | some (.inr (.inr (some a))) => K (pc + n) ls (.inr (.inr (some a)) :: st) cs sl w M
  | _ => False
def akd : ArrayType → Nat
  | .int => 0
  | _ => 1
def isZ (r : Option FieldType) : Bool := match r with
  | some .boolean => true
  | _ => false
def rtI (st : List AV) (P : Int → Prop) : Prop := match st with
  | [.inl x] => P x
  | _ => False
def rtL (st : List AV) (P : Int → Prop) : Prop := match st with
  | [.inr (.inl x)] => P x
  | _ => False
def rtA (st : List AV) (P : Nat → Prop) : Prop := match st with
  | [.inr (.inr (some a))] => P a
  | _ => False
def rt0 (st : List AV) (P : Prop) : Prop := match st with
  | [] => P
  | _ => False
theorem rtI_ex {st : List AV} {P : Int → Prop} (h : rtI st P) : ∃ x, st = [.inl x] ∧ P x := by
  unfold rtI at h; split at h <;> first | exact ⟨_, rfl, h⟩ | exact h.elim
theorem rtL_ex {st : List AV} {P : Int → Prop} (h : rtL st P) : ∃ x, st = [VL x] ∧ P x := by
  unfold rtL at h; split at h <;> first | exact ⟨_, rfl, h⟩ | exact h.elim
theorem rtA_ex {st : List AV} {P : Nat → Prop} (h : rtA st P) : ∃ x, st = [VR x] ∧ P x := by
  unfold rtA at h; split at h <;> first | exact ⟨_, rfl, h⟩ | exact h.elim
theorem rt0_ex {st : List AV} {P : Prop} (h : rt0 st P) : st = [] ∧ P := by
  unfold rt0 at h; split at h <;> first | exact ⟨rfl, h⟩ | exact h.elim
def ax3 (aux : List Nat) (P : Nat → Nat → Nat → Prop) : Prop := match aux with
  | c :: k :: f :: _ => P c k f
  | _ => False
theorem ax3_ex {aux : List Nat} {P : Nat → Nat → Nat → Prop} (h : ax3 aux P) : P (aux.getD 0 0) (aux.getD 1 0) (aux.getD 2 0) := by
  unfold ax3 at h
  split at h
  · exact h
  · exact h.elim
theorem popIA_mono {st : List AV} {P P' : Int → Nat → List AV → Prop} (hp : ∀ x a st, P x a st → P' x a st) (h : popIA st P) : popIA st P' := by
  obtain ⟨x, a, st', rfl, h⟩ := popIA_ex h
  exact hp x a st' h
theorem popIIA_mono {st : List AV} {P P' : Int → Int → Nat → List AV → Prop} (hp : ∀ x i a st, P x i a st → P' x i a st) (h : popIIA st P) : popIIA st P' := by
  obtain ⟨x, i, a, st', rfl, h⟩ := popIIA_ex h
  exact hp x i a st' h
theorem popAIA_mono {st : List AV} {P P' : Nat → Int → Nat → List AV → Prop} (hp : ∀ b i a st, P b i a st → P' b i a st) (h : popAIA st P) : popAIA st P' := by
  obtain ⟨b, i, a, st', rfl, h⟩ := popAIA_ex h
  exact hp b i a st' h
/-- one instruction -/
def stepv (Γ : GG) (μ : Nat) (Q : QT) (K : KT) (i : Instr) (z : Int) (aux : List Nat) (pc : Nat) (ls : LL) (st : List AV) (cs sl : Nat) (w : Wd) (M : MM) : Prop := match i with
  | .iload_n k => ldI K k.val 1 pc ls st cs sl w M
  | .iload k => ldI K k 2 pc ls st cs sl w M
  | .aload_n k => ldA K k.val 1 pc ls st cs sl w M
  | .istore_n k => popI st (fun x st => K (pc + 1) (setL ls k.val (.inl x)) st cs sl w M)
  | .istore k => popI st (fun x st => K (pc + 2) (setL ls k (.inl x)) st cs sl w M)
  | .astore_n k => popA st (fun a st => K (pc + 1) (setL ls k.val (.inr (.inr (some a)))) st cs sl w M)
  | .iconst n => K (pc + 1) ls (.inl n :: st) cs sl w M
  | .bipush n => K (pc + 2) ls (.inl n :: st) cs sl w M
  | .sipush n => K (pc + 3) ls (.inl n :: st) cs sl w M
  | .ldc _ => K (pc + 2) ls (.inl z :: st) cs sl w M
  | .lconst n => K (pc + 1) ls (.inr (.inl (n.val : Int)) :: st) cs sl w M
  | .iadd => popII st (fun x y st => inR (x + y) ∧ K (pc + 1) ls (.inl (x + y) :: st) cs sl w M)
  | .isub => popII st (fun x y st => inR (x - y) ∧ K (pc + 1) ls (.inl (x - y) :: st) cs sl w M)
  | .imul => popII st (fun x y st => inR (x * y) ∧ K (pc + 1) ls (.inl (x * y) :: st) cs sl w M)
  | .ineg => popI st (fun x st => inR (-x) ∧ K (pc + 1) ls (.inl (-x) :: st) cs sl w M)
  | .idiv => popII st (fun x y st => (0 ≤ x ∧ 0 < y) ∧ K (pc + 1) ls (.inl (x / y) :: st) cs sl w M)
  | .irem => popII st (fun x y st => (0 ≤ x ∧ 0 < y) ∧ K (pc + 1) ls (.inl (x % y) :: st) cs sl w M)
  | .ishl => popII st (fun x y st => (0 ≤ x ∧ 0 ≤ y ∧ y < 32 ∧ inR (x * 2 ^ y.toNat)) ∧ K (pc + 1) ls (.inl (x * 2 ^ y.toNat) :: st) cs sl w M)
  | .ishr => popII st (fun x y st => (0 ≤ x ∧ 0 ≤ y ∧ y < 32) ∧ K (pc + 1) ls (.inl (x / 2 ^ y.toNat) :: st) cs sl w M)
  | .iand => popII st (fun x y st => K (pc + 1) ls (.inl (andI x y) :: st) cs sl w M)
  | .ior => popII st (fun x y st => K (pc + 1) ls (.inl (orI x y) :: st) cs sl w M)
  | .i2l => popI st (fun x st => K (pc + 1) ls (.inr (.inl x) :: st) cs sl w M)
  | .lmul => popLL st (fun x y st => inRL (x * y) ∧ K (pc + 1) ls (.inr (.inl (x * y)) :: st) cs sl w M)
  | .lcmp => popLL st (fun x y st => K (pc + 1) ls (.inl (if y < x then 1 else if x = y then 0 else -1) :: st) cs sl w M)
  | .dup => popV st (fun v st => K (pc + 1) ls (v :: v :: st) cs sl w M)
  | .dup2 => popV st (fun v st => popV st (fun u st => K (pc + 1) ls (v :: u :: v :: u :: st) cs sl w M))
  | .pop => popV st (fun _ st => K (pc + 1) ls st cs sl w M)
  | .iinc k n => match getL ls k with
    | some (.inl x) => inR (x + n) ∧ K (pc + 3) (setL ls k (.inl (x + n))) st cs sl w M
    | _ => False
  | .goto _ => K (aux.getD 0 0) ls st cs sl w M
  | .ifCond q _ => popI st (fun x st => brk q x 0 (K (aux.getD 0 0) ls st cs sl w M) (K (pc + 3) ls st cs sl w M))
  | .if_icmp q _ => popII st (fun x y st => brk q x y (K (aux.getD 0 0) ls st cs sl w M) (K (pc + 3) ls st cs sl w M))
  | .getfield _ => ax3 aux (fun ci k fk => popA st (fun a st => w.1 a = 4 + ci ∧ bif Nat.beq fk 2 then ∃ b, w.2.2.1 a k = some b ∧ K (pc + 3) ls (.inr (.inr (some b)) :: st) cs sl w M else K (pc + 3) ls (.inl (M a k) :: st) cs sl w M))
  | .putfield _ => ax3 aux (fun ci k fk => bif Nat.beq fk 2 then popAA st (fun b a st => w.1 a = 4 + ci ∧ K (pc + 3) ls st cs sl (rfW w a k (some b)) M)
    else popIA st (fun x a st => w.1 a = 4 + ci ∧ bif Nat.beq fk 1 then (x = 0 ∨ x = 1) ∧ K (pc + 3) ls st cs sl w (upM M a k x) else K (pc + 3) ls st cs sl w (upM M a k x)))
  | .iaload => popIA st (fun i a st => (w.1 a = 0 ∨ w.1 a = 14) ∧ ∃ n : Nat, i = n ∧ n < w.2.1 a ∧ K (pc + 1) ls (.inl (M a n) :: st) cs sl w M)
  | .iastore => popIIA st (fun x i a st => w.1 a = 0 ∧ ∃ n : Nat, i = n ∧ n < w.2.1 a ∧ K (pc + 1) ls st cs sl w (upM M a n x))
  | .baload => popIA st (fun i a st => w.1 a = 1 ∧ ∃ n : Nat, i = n ∧ n < w.2.1 a ∧ K (pc + 1) ls (.inl (M a n) :: st) cs sl w M)
  | .bastore => popIIA st (fun x i a st => w.1 a = 1 ∧ ∃ n : Nat, i = n ∧ n < w.2.1 a ∧ (x = 0 ∨ x = 1) ∧ K (pc + 1) ls st cs sl w (upM M a n x))
  | .aaload => popIA st (fun i a st => (w.1 a = 2 ∨ w.1 a = 3) ∧ ∃ n : Nat, i = n ∧ n < w.2.1 a ∧ ∃ b, w.2.2.1 a n = some b ∧ K (pc + 1) ls (.inr (.inr (some b)) :: st) cs sl w M)
  | .aastore => popAIA st (fun b i a st => w.1 a = 3 ∧ w.1 b = 5 ∧ ∃ n : Nat, i = n ∧ n < w.2.1 a ∧ K (pc + 1) ls st cs sl (rfW w a n (some b)) M)
  | .newarray t => popI st (fun x st => (0 ≤ x ∧ x ≤ 100000) ∧ gd (rmk μ (cs + 1) (sl + x.toNat)) (K (pc + 2) ls (.inr (.inr (some (w.2.2.2 + 1))) :: st) (cs + 1) (sl + x.toNat) (nwW w (akd t) x.toNat) (zrM M (w.2.2.2 + 1))))
  | .anewarray _ => popI st (fun x st => (0 ≤ x ∧ x ≤ 100000) ∧ gd (rmk μ (cs + 1) (sl + x.toNat)) (K (pc + 3) ls (.inr (.inr (some (w.2.2.2 + 1))) :: st) (cs + 1) (sl + x.toNat) (nwW w 3 x.toNat) M))
  | .multianewarray _ _ => popII st (fun x y st => ((0 ≤ x ∧ x ≤ 1000) ∧ (0 ≤ y ∧ y ≤ 1000)) ∧ gd (rmk μ (cs + (1 + x.toNat)) (sl + (x.toNat + x.toNat * y.toNat))) (K (pc + 4) ls (.inr (.inr (some (w.2.2.2 + 1))) :: st) (cs + (1 + x.toNat)) (sl + (x.toNat + x.toNat * y.toNat)) (mnW w x.toNat y.toNat) (mnM M w.2.2.2 x.toNat)))
  | .new _ => gd (rmk μ (cs + 1) (sl + aux.getD 1 0)) (K (pc + 3) ls (.inr (.inr (some (w.2.2.2 + 1))) :: st) (cs + 1) (sl + aux.getD 1 0) (nwW w (4 + aux.getD 0 0) 0) (zrM M (w.2.2.2 + 1)))
  | .arraylength => popA st (fun a st => w.1 a = 14 ∧ K (pc + 1) ls (.inl (w.2.1 a : Int) :: st) cs sl w M)
  | .invokestatic _ => match aux.getD 0 0 with
    | 5 => popII st (fun x y st => gd (Nat.ble (cats st) 8 && rmk μ cs sl) (K (pc + 3) ls (.inl (max x y) :: st) cs sl w M))
    | 6 => popII st (fun x y st => gd (Nat.ble (cats st) 8 && rmk μ cs sl) (K (pc + 3) ls (.inl (min x y) :: st) cs sl w M))
    | 7 => popI st (fun x st => gd (Nat.ble (cats st) 8 && rmk μ cs sl) (inR (-x) ∧ K (pc + 3) ls (.inl (if x < 0 then -x else x) :: st) cs sl w M))
    | 8 => popC st (fun a sp b dp n st => gd (Nat.ble (cats st) 8 && rmk μ cs sl) ((w.1 a = 0 ∧ w.1 b = 0) ∧ (sp = 0 ∧ dp = 0 ∧ 0 ≤ n ∧ n ≤ w.2.1 a ∧ n ≤ w.2.1 b) ∧ K (pc + 3) ls st cs sl w (cpM M a b n.toNat)))
    | _ => gd (Nat.ble (cats (st.drop (aux.getD 2 0))) 8 && (Nat.ble (aux.getD 2 0) st.length && (Nat.beq (cats (st.take (aux.getD 2 0))) (aux.getD 2 0) && rmk μ cs sl))) (wp Γ (aux.getD 1 0) 0 (argL (aux.getD 2 0) st []) [] 0 0 w M (fun v w' M' => K (pc + 3) ls (rvs v ++ st.drop (aux.getD 2 0)) cs sl w' M'))
  | .invokevirtual _ => popA (st.drop (aux.getD 2 0)) (fun a _ => w.1 a = 4 + aux.getD 6 0 ∧ gd (Nat.ble (cats (st.drop (aux.getD 2 0 + 1))) 8 && (Nat.ble (aux.getD 2 0 + 1) st.length && (Nat.beq (cats (st.take (aux.getD 2 0 + 1))) (aux.getD 2 0 + 1) && rmk μ cs sl))) (wp Γ (aux.getD 1 0) 0 (argL (aux.getD 2 0 + 1) st []) [] 0 0 w M (fun v w' M' => K (pc + 3) ls (rvs v ++ st.drop (aux.getD 2 0 + 1)) cs sl w' M')))
  | .invokespecial _ => match aux.getD 0 0 with
    | 9 => popA st (fun _ st => gd (Nat.ble (cats st) 8 && rmk μ cs sl) (K (pc + 3) ls st cs sl w M))
    | _ => popA (st.drop (aux.getD 2 0)) (fun _ _ => gd (Nat.ble (cats (st.drop (aux.getD 2 0 + 1))) 8 && (Nat.ble (aux.getD 2 0 + 1) st.length && (Nat.beq (cats (st.take (aux.getD 2 0 + 1))) (aux.getD 2 0 + 1) && rmk μ cs sl))) (gd (rmk μ (cs + mmc (aux.getD 1 0)) (sl + mms (aux.getD 1 0))) (wp Γ (aux.getD 1 0) 0 (argL (aux.getD 2 0 + 1) st []) [] 0 0 w M (fun v w' M' => K (pc + 3) ls (rvs v ++ st.drop (aux.getD 2 0 + 1)) (cs + mmc (aux.getD 1 0)) (sl + mms (aux.getD 1 0)) w' M'))))
  | .tableswitch _ lo hi _ => popI st (fun x st => ((x < lo ∨ hi < x) → K (aux.getD 0 0) ls st cs sl w M) ∧ swT x (fun t => K t ls st cs sl w M) lo (aux.drop 1))
  | .lookupswitch _ ps => popI st (fun x st => swL x (fun t => K t ls st cs sl w M) (aux.getD 0 0) ps.toList (aux.drop 1))
  | .ireturn => rtI st (fun x => bif isZ (mret μ) then (x = 0 ∨ x = 1) ∧ gd (rmk μ cs sl) (Q (some (.inl x)) w M) else gd (rmk μ cs sl) (Q (some (.inl x)) w M))
  | .lreturn => rtL st (fun x => gd (rmk μ cs sl) (Q (some (.inr (.inl x))) w M))
  | .areturn => rtA st (fun a => gd (rmk μ cs sl) (Q (some (.inr (.inr (some a)))) w M))
  | .return_ => rt0 st (gd (rmk μ cs sl) (Q none w M))
  | _ => False
/-- the road from pc on, up to the next loop's head, call, return -/
def vc (Γ : GG) (μ : Nat) (B : BK) (Q : QT) (k : Nat) : Bool → KT :=
  Nat.rec (motive := fun _ => Bool → KT) (fun _ pc ls st cs sl w M => wp Γ μ pc ls st cs sl w M Q)
    (fun _ ih first pc ls st cs sl w M => match lk2 pc B with
      | none => False
      | some ai => bif (ai.2.2.1 && !first) then wp Γ μ pc ls st cs sl w M Q else stepv Γ μ Q (ih false) ai.1 ai.2.2.2.1 ai.2.2.2.2 pc ls st cs sl w M) k
