/-! ===== the law from its start ===== -/
theorem law_wp (hG : ∀ Γ, GOK Γ) (Γ : GG) (L : Nat) (xs : Nat → Int) (hL : L ≤ 2560) : wp Γ mL_law 0 [some (VR 0)] [] 0 0 (wd0 L) (mm0 xs) (fun v _ _ => v = some (VI 1)) := by
  have hG := hG Γ
  refine vc_go hG 60 (B := bL_law) rfl ?_
  refine c_xInit hG (fun M1 a1 a2 a3 a4 a5 a6 a7 a8 a9 a10 a11 => ?_)
  refine c_mInit hG (T := fun _ => 0) (H := fun _ => E6) (I := fun _ => E6) (m := fun _ => 0) (r := fun _ => 0) (fun M2 c2 o2 f2 => ?_)
  refine law_loop hG hL (fun _ _ => rfl) L 0 M2 _ (by omega) (Nat.zero_le _) ⟨⟨a1.keep (fun a b1 b2 => f2 a (by omega)), E6_wf, ⟨?_, Nat.zero_le _, fun k hk => absurd hk (Nat.not_lt_zero k)⟩, ⟨9, by decide, ?_, ?_, Nat.zero_le _, fun k hk => absurd hk (Nat.not_lt_zero k)⟩, fun i hi => ⟨?_, Nat.zero_le _, fun z => absurd z (show ¬ (0 : Nat) = 1 by decide)⟩, ⟨?_, Nat.zero_le _, fun k hk => absurd hk (Nat.not_lt_zero k)⟩, ⟨E6, a2.keep (fun a b1 b2 => f2 a (by omega)), E6_wf⟩, ⟨E6, a3.keep (fun a b1 b2 => f2 a (by omega)), E6_wf⟩, Or.inr ?_, Or.inr ?_⟩, c2, o2⟩
  · rw [f2 22 (by decide)]; exact a4
  · rw [f2 24 (by decide)]; exact a5
  · rw [f2 24 (by decide)]; exact a6
  · rw [f2 128 (by decide)]; exact a7 i
  · rw [f2 149 (by decide)]; exact a8
  · rw [f2 1 (by decide)]; exact a9
  · rw [f2 1 (by decide)]; exact a10
