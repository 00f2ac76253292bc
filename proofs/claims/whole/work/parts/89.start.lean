/-! the first state -/
def mF (xl : List Int32) : pmMem := (mFi, fun c => if c = 88 then xl else mFr c, mFl)
def S0 : Sg := (fun _ => none, fun _ => none, (0, fun _ => (0, 0, 0)), List.replicate 12 0, [], fun _ => none, (0, 0, 1), (0, List.replicate 6 0))
theorem mF_row {xl : List Int32} {c : Nat} (h : c ≠ 88) : (mF xl).2.1 c = mFr c := if_neg h
theorem mFr_len (c : Nat) : (mFr c).length = pm_ln c := by unfold mFr; rw [List.length_replicate]
theorem csOk0 : csOk (List.replicate 12 0, 0, 0, 0, 0) := ⟨rfl, by decide, by decide, by decide⟩
theorem RC0 (xl : List Int32) : RC S0 (mF xl) := by
  refine ⟨fun r hr => ?_, fun r hr => ?_, ⟨rfl, Nat.zero_le _, fun h hh => absurd hh (Nat.not_lt_zero _)⟩, ⟨⟨rfl, rfl, rfl, rfl, rfl, csOk0⟩, rfl, rfl, rfl, Nat.zero_le _, rfl, rfl⟩, ⟨rfl, fun k hk => ?_⟩, ⟨rfl, rfl, rfl, rfl, ⟨rfl, rfl, rfl⟩, rfl, rfl, rfl, rfl, rfl⟩, ⟨rfl, rfl, rfl⟩, ⟨rfl, rfl, rfl⟩, ⟨fun x hx => ?_, fun k ds hk => ?_, fun _ => ⟨rfl, fun k => rfl⟩⟩⟩
  · rcases (show r = 0 ∨ r = 1 ∨ r = 2 ∨ r = 3 ∨ r = 4 ∨ r = 5 by omega) with rfl | rfl | rfl | rfl | rfl | rfl <;> exact ⟨rfl, rfl⟩
  · rcases (show r = 0 ∨ r = 1 ∨ r = 2 ∨ r = 3 by omega) with rfl | rfl | rfl | rfl <;> exact ⟨rfl, rfl⟩
  · rcases (show k = 0 ∨ k = 1 ∨ k = 2 by omega) with rfl | rfl | rfl <;> exact ⟨⟨rfl, rfl, rfl⟩, rfl⟩
  · have hx : x ∈ ([] : List Nat) := hx
    cases hx
  · have hk : (none : Option (List Nat)) = some ds := hk
    cases hk
theorem RR0 (xl : List Int32) : RR S0 (mF xl) := by
  refine ⟨⟨rfl, rfl, fun r hr => ?_⟩, ⟨rfl, rfl, fun r hr => ?_⟩, ⟨rfl, Nat.zero_le _, rfl, rfl, rfl, fun h hh => absurd hh (Nat.not_lt_zero _)⟩, ⟨rfl, rfl, rfl, Nat.zero_le _, rfl, rfl⟩, ⟨rfl, rfl, rfl, rfl, csOk0⟩, ⟨rfl, rfl, fun k hk => ?_⟩, ⟨rfl, rfl, rfl, rfl, rfl, rfl, rfl⟩, ⟨rfl, rfl, rfl⟩, ⟨rfl, rfl, rfl⟩, ⟨fun x hx => ?_, fun k ds hk => ?_, fun _ => ⟨rfl, fun k => rfl⟩⟩⟩
  · rcases (show r = 0 ∨ r = 1 ∨ r = 2 ∨ r = 3 ∨ r = 4 ∨ r = 5 by omega) with rfl | rfl | rfl | rfl | rfl | rfl <;> exact (rfl : _ = (-1 : Int32))
  · rcases (show r = 0 ∨ r = 1 ∨ r = 2 ∨ r = 3 by omega) with rfl | rfl | rfl | rfl <;> exact (rfl : _ = (-1 : Int32))
  · rcases (show k = 0 ∨ k = 1 ∨ k = 2 by omega) with rfl | rfl | rfl <;> exact (rfl : _ = (-1 : Int32))
  · have hx : x ∈ ([] : List Nat) := hx
    cases hx
  · have hk : (none : Option (List Nat)) = some ds := hk
    cases hk
theorem shF_all {N : Nat → Bool} : ∀ (l : List Value) (j : Nat), (∀ i v, l[i]? = some v → N (j + i) = true ∨ dfl v = v) → shF N j l = l
  | [], _, _ => rfl
  | v :: t, j, h => by
    simp only [shF]
    rw [shF_all t (j + 1) (fun i w hw => by
      have := h (i + 1) w hw
      rw [show j + (i + 1) = j + 1 + i by omega] at this
      exact this)]
    congr 1
    rcases h 0 v rfl with z | z
    · rw [if_pos (show N j = true from z)]
    · split
      · rfl
      · exact z
theorem nFin_o : ∀ c, c < 87 → pm_kd c < 8 → c ≠ 65 → ∀ j, j < 14 → j < (pm_fs (pm_kd c) c (fun _ => 0) (fun _ => 0)).length → nFin c j = true := by decide +kernel
theorem nFin_r : ∀ c, c < 87 → 9 < pm_kd c → ∀ j, j < 6 → j < pm_rl c → nFin c j = true := by decide +kernel
theorem nFin_i : ∀ c, c < 87 → (c = 67 ∨ c = 69 ∨ c = 76) → ∀ j, j < 6 → j < pm_ln c → nFin c j = true := by decide +kernel
theorem fs_len (ci c : Nat) (f f' : Nat → Int32) (g g' : Nat → Int64) : (pm_fs ci c f g).length = (pm_fs ci c f' g').length := by
  unfold pm_fs
  split <;> rfl
theorem fs_14 {ci c : Nat} {f : Nat → Int32} {g : Nat → Int64} (h : ci < 7) : (pm_fs ci c f g).length ≤ 14 := by
  rcases (show ci = 0 ∨ ci = 1 ∨ ci = 2 ∨ ci = 3 ∨ ci = 4 ∨ ci = 5 ∨ ci = 6 by omega) with rfl | rfl | rfl | rfl | rfl | rfl | rfl <;> exact Nat.le_of_ble_eq_true rfl
theorem kd_65 : ∀ c, c < 87 → pm_kd c = 7 → c = 65 := by decide
set_option maxRecDepth 20000 in
theorem sh_65m : shF (nFin 65) 0 (pm_fs 7 65 (mFi 65) (mFl 65)) = pm_fs 7 65 (mFi 65) (mFl 65) := by
  refine shF_all _ 0 (fun i v hv => ?_)
  have hi : i < 32 := (List.getElem?_eq_some_iff.mp hv).1
  rcases (show i = 0 ∨ i = 1 ∨ i = 2 ∨ i = 3 ∨ i = 4 ∨ i = 5 ∨ i = 6 ∨ i = 7 ∨ i = 8 ∨ i = 9 ∨ i = 10 ∨ i = 11 ∨ i = 12 ∨ i = 13 ∨ i = 14 ∨ i = 15 ∨ i = 16 ∨ i = 17 ∨ i = 18 ∨ i = 19 ∨ i = 20 ∨ i = 21 ∨ i = 22 ∨ i = 23 ∨ i = 24 ∨ i = 25 ∨ i = 26 ∨ i = 27 ∨ i = 28 ∨ i = 29 ∨ i = 30 ∨ i = 31 by omega) with rfl | rfl | rfl | rfl | rfl | rfl | rfl | rfl | rfl | rfl | rfl | rfl | rfl | rfl | rfl | rfl | rfl | rfl | rfl | rfl | rfl | rfl | rfl | rfl | rfl | rfl | rfl | rfl | rfl | rfl | rfl | rfl <;> first | exact Or.inl rfl | (cases hv; exact Or.inr rfl)
theorem kd_cases : ∀ c, c < 87 → pm_kd c < 8 ∨ pm_kd c = 8 ∨ pm_kd c = 9 ∨ (9 < pm_kd c ∧ pm_kd c < 13) := by decide
theorem rl_6 : ∀ c, c < 87 → 9 < pm_kd c → pm_rl c ≤ 6 := by decide
theorem ln_6 : ∀ c, c < 87 → (c = 67 ∨ c = 69 ∨ c = 76) → pm_ln c ≤ 6 := by decide
theorem getD_rep {n i : Nat} {x : Int32} : (List.replicate n x).getD i 0 = if i < n then x else 0 := by
  rw [List.getD_eq_getElem?_getD, List.getElem?_replicate]
  split <;> rfl
theorem row_fin {c i : Nat} (hc : c < 87) : (if nFin c i then (mFr c).getD i 0 else 0) = (mFr c).getD i 0 := by
  by_cases h3 : c = 67 ∨ c = 69 ∨ c = 76
  · by_cases hi : i < pm_ln c
    · have := ln_6 c hc h3
      rw [nFin_i c hc h3 i (by omega) hi]; rfl
    · have : (mFr c).getD i 0 = 0 := by unfold mFr; rw [getD_rep, if_neg hi]
      rw [this]; split <;> rfl
  · have : (mFr c).getD i 0 = 0 := by
      unfold mFr; rw [if_neg h3, getD_rep]; split <;> rfl
    rw [this]; split <;> rfl
theorem cell_fin {X : pmX} {H : Heap} {xl : List Int32} {c : Nat} (hc : c < 87) (h : va_at X.2.1 vwCl (X.1 c, cellN X nFin c) H) : va_at X.2.1 vwCl (X.1 c, pm_cell X (mF xl) c) H := by
  have e88 : (mF xl).2.1 c = mFr c := mF_row (by omega)
  rcases kd_cases c hc with hk | hk | hk | hk
  · have : cellN X nFin c = pm_cell X (mF xl) c := by
      rw [cellN_o rfl hk, pm_cell_o rfl hk]
      congr 2
      show (shF (nFin c) 0 (pm_fs (pm_kd c) c (mFi c) (mFl c))).map (pm_tr X) = (pm_fs (pm_kd c) c (mFi c) (mFl c)).map (pm_tr X)
      by_cases h65 : c = 65
      · subst h65
        exact congrArg (List.map (pm_tr X)) sh_65m
      · congr 1
        refine shF_all _ 0 (fun i v hv => Or.inl ?_)
        have hl := (List.getElem?_eq_some_iff.mp hv).1
        have h7 : pm_kd c ≠ 7 := fun z => h65 (kd_65 c hc z)
        have := fs_14 (ci := pm_kd c) (c := c) (f := mFi c) (g := mFl c) (by omega)
        rw [Nat.zero_add]
        exact nFin_o c hc hk h65 i (by omega) (by rw [fs_len _ _ _ (mFi c) _ (mFl c)]; exact hl)
    rw [← this]; exact h
  · have : cellN X nFin c = pm_cell X (mF xl) c := by
      rw [cellN_i hk, pm_cell_i hk, e88, mFr_len]
      congr 4
      funext i
      exact row_fin hc
    rw [← this]; exact h
  · have : cellN X nFin c = pm_cell X (mF xl) c := by
      rw [cellN_z hk, pm_cell_z hk, e88, mFr_len]
      congr 4
      funext i
      exact row_fin hc
    rw [← this]; exact h
  · obtain ⟨t, ht⟩ : ∃ t, pm_kd c = 10 + t := ⟨pm_kd c - 10, by omega⟩
    rw [cellN_r ht (by omega)] at h
    rw [pm_cell_r ht (by omega)]
    have h : H[X.1 c]? = some (vp_cell _ _) := h
    show H[X.1 c]? = some (vp_cell _ _)
    rw [h, vp_cell_q, vp_cell_q]
    congr 1
    unfold arrV
    congr 2
    funext j
    have := rl_6 c hc (by omega)
    have jl := j.isLt
    show va_rf (if nFin c j.val = true then some (X.1 (pm_ra c j.val)) else none) = va_rf (some (X.1 (pm_ra c j.val)))
    rw [nFin_r c hc (by omega) j.val (by omega) jl]
    rfl
theorem H_fin {X : pmX} {s : State} {H : Heap} {locs : List Loc} {xl : List Int32} (h : pm_HB X s 87 nFin H locs) (hs : pm_scr X (mF xl)) : pm_H X s (mF xl) H locs := by
  obtain ⟨hP, hD, hS, hz, hX, hf⟩ := h
  refine ⟨fun c q hq => ?_, ⟨fun i j p q hp hq hpq => ?_, fun i q hq => ?_⟩, hS, hs⟩
  · have hc : c < 87 := by
      have := (List.getElem?_eq_some_iff.mp hq).1
      simpa [pm_ws] using this
    rw [pm_ws_get hc] at hq
    have := Option.some.inj hq
    rw [← this]
    exact cell_fin hc (hP c _ (wsN_get hc))
  · have hi : i < 87 := by
      have := (List.getElem?_eq_some_iff.mp hp).1
      simpa [pm_ws] using this
    have hj : j < 87 := by
      have := (List.getElem?_eq_some_iff.mp hq).1
      simpa [pm_ws] using this
    rw [pm_ws_get hi] at hp
    rw [pm_ws_get hj] at hq
    refine hD.1 i j _ _ (wsN_get hi) (wsN_get hj) ?_
    have e1 := Option.some.inj hp
    have e2 := Option.some.inj hq
    rw [← e1, ← e2] at hpq
    exact hpq
  · have hi : i < 87 := by
      have := (List.getElem?_eq_some_iff.mp hq).1
      simpa [pm_ws] using this
    rw [pm_ws_get hi] at hq
    rw [← Option.some.inj hq]
    exact pm_Ad_k hi
