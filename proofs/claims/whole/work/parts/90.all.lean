/-! ===== all tables are faithful ===== -/
theorem all_td {α : Type} {f : α → Bool} {l : List α} (n : Nat) (h1 : (l.take n).all f = true) (h2 : (l.drop n).all f = true) : l.all f = true := by
  rw [← List.take_append_drop n l, List.all_append, h1, h2]
  rfl
theorem bkl_all : bchk 168 = true := by
  show bL_law.all (fun b => b.2.all (fun x => ichk 168 x.1 x.2)) = true
  refine all_td 7 bkl_0 ?_
  refine all_td 7 bkl_1 ?_
  rw [List.drop_drop]
  refine all_td 7 bkl_2 ?_
  rw [List.drop_drop]
  refine all_td 7 bkl_3 ?_
  rw [List.drop_drop]
  refine all_td 7 bkl_4 ?_
  rw [List.drop_drop]
  refine all_td 7 bkl_5 ?_
  rfl
theorem bck_16 : (List.range 10).all (fun j => bchk (16 * 10 + j)) = true := by
  refine List.all_eq_true.mpr (fun j hj => ?_)
  have hj : j < 10 := List.mem_range.mp hj
  by_cases c : j < 8
  · exact List.all_eq_true.mp bck_16a j (List.mem_range.mpr c)
  · by_cases c8 : j = 8
    · subst c8; exact bkl_all
    · have c9 : j = 9 := by omega
      subst c9; rfl
theorem bck_all : ∀ i, i < 17 → (List.range 10).all (fun j => bchk (i * 10 + j)) = true := by
  intro i hi
  match i, hi with
  | 0, _ => exact bck_0
  | 1, _ => exact bck_1
  | 2, _ => exact bck_2
  | 3, _ => exact bck_3
  | 4, _ => exact bck_4
  | 5, _ => exact bck_5
  | 6, _ => exact bck_6
  | 7, _ => exact bck_7
  | 8, _ => exact bck_8
  | 9, _ => exact bck_9
  | 10, _ => exact bck_10
  | 11, _ => exact bck_11
  | 12, _ => exact bck_12
  | 13, _ => exact bck_13
  | 14, _ => exact bck_14
  | 15, _ => exact bck_15
  | 16, _ => exact bck_16
  | i + 17, h => omega
theorem chk_all (μ : Nat) : bchk μ = true := by
  by_cases h : μ < 170
  · have k := List.all_eq_true.mp (bck_all (μ / 10) (by omega)) (μ % 10) (List.mem_range.mpr (by omega))
    rw [show μ / 10 * 10 + μ % 10 = μ by omega] at k
    exact k
  · have e : μ / 10 = (μ / 10 - 17) + 17 := by omega
    have e2 : PL μ = ((mtab.getD ((μ / 10 - 17) + 17) []).getD (μ % 10) (iX0_init, [])).2 := by rw [← e]; rfl
    have e3 : PL μ = [] := by rw [e2]; rfl
    unfold bchk
    rw [e3]
    rfl
theorem gok_all (Γ : GG) : GOK Γ := ⟨r_mna Γ, chk_all⟩
set_option maxHeartbeats 4000000 in
theorem whole_start {p : Program} {e : Env} {s : State} {m : MethodId} {below : List Frame} {meth : Method} {c : Code} (l : Launch) (hflags : l.flags = flags0) {b L : Nat} {xs : Nat → Int32} (hL : L ≤ 2560) (C0 : lw_At p s m meth c b L xs) : W p l e room_1 s m #[Value.ref b] below meth c s.heap [] 0 0 (lw_Z below #[Value.ref b] s) (entryFrame m ([Value.ref b] : List Value).toArray 4) := law_start (fun Γ L xs h _ => law_wp gok_all Γ L xs h) l hL C0
