/-! ===== the world behind the constructors (by gen24.py) ===== -/
def kdT : List (List Nat) := [[14, 12, 5, 2, 0, 0, 0, 0, 0, 0, 0, 0, 5, 2, 0, 0], [0, 0, 0, 0, 0, 0, 11, 0, 6, 3, 5, 2, 0, 0, 0, 0], [0, 0, 0, 0, 5, 2, 0, 0, 0, 0, 0, 0, 0, 0, 5, 2], [0, 0, 0, 0, 0, 0, 0, 0, 5, 2, 0, 0, 0, 0, 0, 0], [0, 0, 5, 2, 0, 0, 0, 0, 0, 0, 0, 0, 5, 2, 0, 0], [0, 0, 0, 0, 0, 0, 5, 2, 0, 0, 0, 0, 0, 0, 0, 0], [5, 2, 0, 0, 0, 0, 0, 0, 0, 0, 5, 2, 0, 0, 0, 0], [0, 0, 0, 0, 5, 2, 0, 0, 0, 0, 0, 0, 0, 0, 7, 3], [1, 5, 2, 0, 0, 0, 0, 0, 0, 0, 0, 5, 2, 0, 0, 0], [0, 0, 0, 0, 0, 10, 0, 0, 0, 8, 0, 0, 9, 5, 2, 0], [0, 0, 0, 0, 0, 0, 0, 8, 0, 0, 4, 5, 2, 0, 0, 0], [0, 0, 0, 0, 0, 8, 0, 0, 8, 0, 0, 13, 0, 0, 0, 0], [0, 1, 0, 0, 0, 0, 0, 0, 0, 0, 0]]
def lnT : List (List Nat) := [[0, 0, 0, 7, 13, 13, 13, 13, 13, 13, 13, 6, 0, 7, 13, 13], [13, 13, 13, 13, 13, 6, 0, 80, 0, 10, 0, 7, 13, 13, 13, 13], [13, 13, 13, 6, 0, 7, 13, 13, 13, 13, 13, 13, 13, 6, 0, 7], [13, 13, 13, 13, 13, 13, 13, 6, 0, 7, 13, 13, 13, 13, 13, 13], [13, 6, 0, 7, 13, 13, 13, 13, 13, 13, 13, 6, 0, 7, 13, 13], [13, 13, 13, 13, 13, 6, 0, 7, 13, 13, 13, 13, 13, 13, 13, 6], [0, 7, 13, 13, 13, 13, 13, 13, 13, 6, 0, 7, 13, 13, 13, 13], [13, 13, 13, 6, 0, 7, 13, 13, 13, 13, 13, 13, 13, 6, 0, 2], [2, 0, 7, 13, 13, 13, 13, 13, 13, 13, 6, 0, 7, 13, 13, 13], [13, 13, 13, 13, 6, 0, 6, 6, 9, 0, 512, 512, 0, 0, 7, 13], [13, 13, 13, 13, 13, 13, 6, 0, 512, 512, 0, 0, 7, 13, 13, 13], [13, 13, 13, 13, 6, 0, 512, 512, 0, 512, 512, 0, 80, 57, 57, 57], [114, 2, 570, 6, 6, 14, 14, 1024, 12, 1024, 1024]]
def rfT : List (List (List (Option Nat))) := [[[], [some 2, some 12, some 22, some 24, some 126, some 149, some 153, some 156, some 170], [some 3, some 11], [some 4, some 5, some 6, some 7, some 8, some 9, some 10], [], [], [], [], [], [], [], [], [some 13, some 21], [some 14, some 15, some 16, some 17, some 18, some 19, some 20], [], []], [[], [], [], [], [], [], [some 23], [], [some 25], [some 26, some 36, some 46, some 56, some 66, some 76, some 86, some 96, some 106, some 116], [some 27, some 35], [some 28, some 29, some 30, some 31, some 32, some 33, some 34], [], [], [], []], [[], [], [], [], [some 37, some 45], [some 38, some 39, some 40, some 41, some 42, some 43, some 44], [], [], [], [], [], [], [], [], [some 47, some 55], [some 48, some 49, some 50, some 51, some 52, some 53, some 54]], [[], [], [], [], [], [], [], [], [some 57, some 65], [some 58, some 59, some 60, some 61, some 62, some 63, some 64], [], [], [], [], [], []], [[], [], [some 67, some 75], [some 68, some 69, some 70, some 71, some 72, some 73, some 74], [], [], [], [], [], [], [], [], [some 77, some 85], [some 78, some 79, some 80, some 81, some 82, some 83, some 84], [], []], [[], [], [], [], [], [], [some 87, some 95], [some 88, some 89, some 90, some 91, some 92, some 93, some 94], [], [], [], [], [], [], [], []], [[some 97, some 105], [some 98, some 99, some 100, some 101, some 102, some 103, some 104], [], [], [], [], [], [], [], [], [some 107, some 115], [some 108, some 109, some 110, some 111, some 112, some 113, some 114], [], [], [], []], [[], [], [], [], [some 117, some 125], [some 118, some 119, some 120, some 121, some 122, some 123, some 124], [], [], [], [], [], [], [], [], [some 127, some 128], [some 129, some 139]], [[], [some 130, some 138], [some 131, some 132, some 133, some 134, some 135, some 136, some 137], [], [], [], [], [], [], [], [], [some 140, some 148], [some 141, some 142, some 143, some 144, some 145, some 146, some 147], [], [], []], [[], [], [], [], [], [some 150, some 151, some 152], [], [], [], [some 154, some 155], [], [], [some 157, some 167], [some 158, some 166], [some 159, some 160, some 161, some 162, some 163, some 164, some 165], []], [[], [], [], [], [], [], [], [some 168, some 169], [], [], [some 171, some 181, some 184], [some 172, some 180], [some 173, some 174, some 175, some 176, some 177, some 178, some 179], [], [], []], [[], [], [], [], [], [some 182, some 183], [], [], [some 185, some 186], [], [], [none, some 188, none, none, none, none, none, none, some 189, some 190, some 191, some 192, some 193, some 194, none, some 195, some 196, none, some 197, some 198, none, some 199, some 200, none, some 201, some 202], [], [], [], []], [[], [], [], [], [], [], [], [], [], [], []]]
def W0 (L : Nat) : Wd := (fun a => (kdT.getD (a / 16) []).getD (a % 16) 15, fun a => bif Nat.beq a 0 then L else (lnT.getD (a / 16) []).getD (a % 16) 0, fun a k => ((rfT.getD (a / 16) []).getD (a % 16) []).getD k none, 202)
theorem GrL_of {w : Wd} {g : Nat} (h1 : w.1 g = 5) (h2 : w.2.2.1 g 0 = some (g + 1)) (h3 : w.2.2.1 g 1 = some (g + 9)) (h4 : w.1 (g + 1) = 2) (h5 : w.2.1 (g + 1) = 7) (h6 : ∀ j, j < 7 → w.2.2.1 (g + 1) j = some (g + 2 + j)) (h7 : ∀ j, j < 7 → w.1 (g + 2 + j) = 0) (h8 : ∀ j, j < 7 → w.2.1 (g + 2 + j) = 13) (h9 : w.1 (g + 9) = 0) (h10 : w.2.1 (g + 9) = 6) : GrL w g := ⟨h1, h2, h3, h4, h5, fun j hj => ⟨h6 j hj, h7 j hj, h8 j hj⟩, h9, h10⟩
theorem lt7 {P : Nat → Prop} (h0 : P 0) (h1 : P 1) (h2 : P 2) (h3 : P 3) (h4 : P 4) (h5 : P 5) (h6 : P 6) : ∀ j, j < 7 → P j := by
  intro j hj
  match j, hj with
  | 0, _ => exact h0
  | 1, _ => exact h1
  | 2, _ => exact h2
  | 3, _ => exact h3
  | 4, _ => exact h4
  | 5, _ => exact h5
  | 6, _ => exact h6
  | j + 7, h => omega
theorem W0_g2 (L : Nat) : GrL (W0 L) 2 := GrL_of rfl rfl rfl rfl rfl (lt7 rfl rfl rfl rfl rfl rfl rfl) (lt7 rfl rfl rfl rfl rfl rfl rfl) (lt7 rfl rfl rfl rfl rfl rfl rfl) rfl rfl
theorem W0_g12 (L : Nat) : GrL (W0 L) 12 := GrL_of rfl rfl rfl rfl rfl (lt7 rfl rfl rfl rfl rfl rfl rfl) (lt7 rfl rfl rfl rfl rfl rfl rfl) (lt7 rfl rfl rfl rfl rfl rfl rfl) rfl rfl
theorem W0_g26 (L : Nat) : GrL (W0 L) 26 := GrL_of rfl rfl rfl rfl rfl (lt7 rfl rfl rfl rfl rfl rfl rfl) (lt7 rfl rfl rfl rfl rfl rfl rfl) (lt7 rfl rfl rfl rfl rfl rfl rfl) rfl rfl
theorem W0_g36 (L : Nat) : GrL (W0 L) 36 := GrL_of rfl rfl rfl rfl rfl (lt7 rfl rfl rfl rfl rfl rfl rfl) (lt7 rfl rfl rfl rfl rfl rfl rfl) (lt7 rfl rfl rfl rfl rfl rfl rfl) rfl rfl
theorem W0_g46 (L : Nat) : GrL (W0 L) 46 := GrL_of rfl rfl rfl rfl rfl (lt7 rfl rfl rfl rfl rfl rfl rfl) (lt7 rfl rfl rfl rfl rfl rfl rfl) (lt7 rfl rfl rfl rfl rfl rfl rfl) rfl rfl
theorem W0_g56 (L : Nat) : GrL (W0 L) 56 := GrL_of rfl rfl rfl rfl rfl (lt7 rfl rfl rfl rfl rfl rfl rfl) (lt7 rfl rfl rfl rfl rfl rfl rfl) (lt7 rfl rfl rfl rfl rfl rfl rfl) rfl rfl
theorem W0_g66 (L : Nat) : GrL (W0 L) 66 := GrL_of rfl rfl rfl rfl rfl (lt7 rfl rfl rfl rfl rfl rfl rfl) (lt7 rfl rfl rfl rfl rfl rfl rfl) (lt7 rfl rfl rfl rfl rfl rfl rfl) rfl rfl
theorem W0_g76 (L : Nat) : GrL (W0 L) 76 := GrL_of rfl rfl rfl rfl rfl (lt7 rfl rfl rfl rfl rfl rfl rfl) (lt7 rfl rfl rfl rfl rfl rfl rfl) (lt7 rfl rfl rfl rfl rfl rfl rfl) rfl rfl
theorem W0_g86 (L : Nat) : GrL (W0 L) 86 := GrL_of rfl rfl rfl rfl rfl (lt7 rfl rfl rfl rfl rfl rfl rfl) (lt7 rfl rfl rfl rfl rfl rfl rfl) (lt7 rfl rfl rfl rfl rfl rfl rfl) rfl rfl
theorem W0_g96 (L : Nat) : GrL (W0 L) 96 := GrL_of rfl rfl rfl rfl rfl (lt7 rfl rfl rfl rfl rfl rfl rfl) (lt7 rfl rfl rfl rfl rfl rfl rfl) (lt7 rfl rfl rfl rfl rfl rfl rfl) rfl rfl
theorem W0_g106 (L : Nat) : GrL (W0 L) 106 := GrL_of rfl rfl rfl rfl rfl (lt7 rfl rfl rfl rfl rfl rfl rfl) (lt7 rfl rfl rfl rfl rfl rfl rfl) (lt7 rfl rfl rfl rfl rfl rfl rfl) rfl rfl
theorem W0_g116 (L : Nat) : GrL (W0 L) 116 := GrL_of rfl rfl rfl rfl rfl (lt7 rfl rfl rfl rfl rfl rfl rfl) (lt7 rfl rfl rfl rfl rfl rfl rfl) (lt7 rfl rfl rfl rfl rfl rfl rfl) rfl rfl
theorem W0_g129 (L : Nat) : GrL (W0 L) 129 := GrL_of rfl rfl rfl rfl rfl (lt7 rfl rfl rfl rfl rfl rfl rfl) (lt7 rfl rfl rfl rfl rfl rfl rfl) (lt7 rfl rfl rfl rfl rfl rfl rfl) rfl rfl
theorem W0_g139 (L : Nat) : GrL (W0 L) 139 := GrL_of rfl rfl rfl rfl rfl (lt7 rfl rfl rfl rfl rfl rfl rfl) (lt7 rfl rfl rfl rfl rfl rfl rfl) (lt7 rfl rfl rfl rfl rfl rfl rfl) rfl rfl
theorem W0_g157 (L : Nat) : GrL (W0 L) 157 := GrL_of rfl rfl rfl rfl rfl (lt7 rfl rfl rfl rfl rfl rfl rfl) (lt7 rfl rfl rfl rfl rfl rfl rfl) (lt7 rfl rfl rfl rfl rfl rfl rfl) rfl rfl
theorem W0_g171 (L : Nat) : GrL (W0 L) 171 := GrL_of rfl rfl rfl rfl rfl (lt7 rfl rfl rfl rfl rfl rfl rfl) (lt7 rfl rfl rfl rfl rfl rfl rfl) (lt7 rfl rfl rfl rfl rfl rfl rfl) rfl rfl
theorem W0_h (L : Nat) : ∀ i, i < 10 → GrL (W0 L) (26 + 10 * i) := by
  intro i hi
  match i, hi with
  | 0, _ => exact W0_g26 L
  | 1, _ => exact W0_g36 L
  | 2, _ => exact W0_g46 L
  | 3, _ => exact W0_g56 L
  | 4, _ => exact W0_g66 L
  | 5, _ => exact W0_g76 L
  | 6, _ => exact W0_g86 L
  | 7, _ => exact W0_g96 L
  | 8, _ => exact W0_g106 L
  | 9, _ => exact W0_g116 L
  | i + 10, h => omega
theorem W0_hr (L : Nat) : ∀ i, i < 10 → (W0 L).2.2.1 25 i = some (26 + 10 * i) := by
  intro i hi
  match i, hi with
  | 0, _ => rfl
  | 1, _ => rfl
  | 2, _ => rfl
  | 3, _ => rfl
  | 4, _ => rfl
  | 5, _ => rfl
  | 6, _ => rfl
  | 7, _ => rfl
  | 8, _ => rfl
  | 9, _ => rfl
  | i + 10, h => omega
theorem W0_i (L : Nat) : ∀ i, i < 2 → GrL (W0 L) (129 + 10 * i) := by
  intro i hi
  match i, hi with
  | 0, _ => exact W0_g129 L
  | 1, _ => exact W0_g139 L
  | i + 2, h => omega
theorem W0_ir (L : Nat) : ∀ i, i < 2 → (W0 L).2.2.1 127 i = some (129 + 10 * i) := by
  intro i hi
  match i, hi with
  | 0, _ => rfl
  | 1, _ => rfl
  | i + 2, h => omega
