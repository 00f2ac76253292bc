/-! what the calls of rows and texts answer -/
def o_row (S : Sg) (x n : Int32) : Int32 × Sg := match idx 6 x with
  | none => (-1, S)
  | some r => if 40 < n.toInt then (-1, S) else if n.toInt < 0 then (-3, find S 5) else (n, setR S r (some (List.replicate n.toInt.toNat 0)))
def o_lay (S : Sg) (x i v : Int32) : Int32 × Sg := match idx 6 x with
  | none => (-1, S)
  | some r => match sR S r with
    | none => (-3, find S 1)
    | some l => match idx l.length i with
      | none => (-3, find S 2)
      | some j => (1, setR (tell S (l.getD j 0)) r (some (l.set j v)))
def o_at (S : Sg) (x i : Int32) : Int32 × Sg := match idx 6 x with
  | none => (-1, S)
  | some r => match sR S r with
    | none => (-3, find S 1)
    | some l => match idx l.length i with
      | none => (-3, find S 2)
      | some j => (1, tell S (l.getD j 0))
def o_tear (S : Sg) (x : Int32) : Int32 × Sg := match idx 6 x with
  | none => (-1, S)
  | some r => match sR S r with
    | none => (-3, find S 1)
    | some _ => (1, setR S r none)
def o_copy (S : Sg) (x i y j n : Int32) : Int32 × Sg := match idx 6 x with
  | none => (-1, S)
  | some r => match idx 6 y with
    | none => (-1, S)
    | some t => if n.toInt < 0 then (-3, find S 5) else match sR S r with
      | none => (-3, find S 1)
      | some l => match sR S t with
        | none => (-3, find S 1)
        | some k => if fitR l i n ∧ fitR k j n then (1, setR S t (some (pm_cpy l k i.toNatClampNeg j.toNatClampNeg n.toNatClampNeg))) else (-3, find S 2)
def o_mean (S : Sg) (x : Int32) : Int32 × Sg := match idx 6 x with
  | none => (-1, S)
  | some r => match sR S r with
    | none => (-3, find S 1)
    | some l => if l.length = 0 then (-3, find S 4) else (1, tell S (Int64.toInt32 (sum64 l l.length / (nI l.length).toInt64)))
def o_text (S : Sg) (x n : Int32) : Int32 × Sg := match idx 4 x with
  | none => (-1, S)
  | some r => if 60 < n.toInt then (-1, S) else if n.toInt < 0 then (-3, find S 5) else (n, setT S r (some (List.replicate n.toInt.toNat 32)))
def o_put (S : Sg) (x i v : Int32) : Int32 × Sg := match idx 4 x with
  | none => (-1, S)
  | some r => match sT S r with
    | none => (-3, find S 1)
    | some l => match idx l.length i with
      | none => (-3, find S 2)
      | some j => (l.getD j 0 + 1000, setT S r (some (l.set j v.toInt8.toInt32)))
theorem RC_row {S : Sg} {m m' : pmMem} {r : Nat} {o : Option (List Int32)} (h : RC S m) (hr : r < 6) (ha : ag (shS (33 + 2 * r)) m m') (hs : sheetM o 40 (33 + 2 * r) m') : RC (setR S r o) m' := by
  refine RC_upd h ha (Or.inr ?_) (Or.inl ⟨rfl, fun c _ _ z => by unfold shS at z; omega⟩) (Or.inl ⟨rfl, fun c _ _ z => by unfold shS at z; omega⟩) (Or.inl ⟨rfl, rfl, rfl, fun c _ _ z => by unfold shS at z; omega⟩) (Or.inl ⟨rfl, rfl, rfl, fun z => by unfold shS at z; omega, fun c _ _ z => by unfold shS at z; omega⟩) (Or.inl fun c _ z => by unfold shS at z; omega) (Or.inl ⟨rfl, fun z => by unfold shS at z; omega⟩) (Or.inl ⟨rfl, fun z => by unfold shS at z; omega, fun z => by unfold shS at z; omega⟩) h.2.2.2.2.2.2.2.2
  intro q hq
  show sheetM (upo S.1 r o q) 40 (33 + 2 * q) m'
  unfold upo
  by_cases e : q = r
  · rw [if_pos e, e]; exact hs
  · rw [if_neg e]
    exact sheetM_ag (h.1 q hq) ha (fun z => by unfold shS at z; omega) (fun z => by unfold shS at z; omega)
theorem RC_text {S : Sg} {m m' : pmMem} {r : Nat} {o : Option (List Int32)} (h : RC S m) (hr : r < 4) (ha : ag (shS (45 + 2 * r)) m m') (hs : sheetM o 60 (45 + 2 * r) m') : RC (setT S r o) m' := by
  refine RC_upd h ha (Or.inl ⟨rfl, fun c _ _ z => by unfold shS at z; omega⟩) (Or.inr ?_) (Or.inl ⟨rfl, fun c _ _ z => by unfold shS at z; omega⟩) (Or.inl ⟨rfl, rfl, rfl, fun c _ _ z => by unfold shS at z; omega⟩) (Or.inl ⟨rfl, rfl, rfl, fun z => by unfold shS at z; omega, fun c _ _ z => by unfold shS at z; omega⟩) (Or.inl fun c _ z => by unfold shS at z; omega) (Or.inl ⟨rfl, fun z => by unfold shS at z; omega⟩) (Or.inl ⟨rfl, fun z => by unfold shS at z; omega, fun z => by unfold shS at z; omega⟩) h.2.2.2.2.2.2.2.2
  intro q hq
  show sheetM (upo S.2.1 r o q) 60 (45 + 2 * q) m'
  unfold upo
  by_cases e : q = r
  · rw [if_pos e, e]; exact hs
  · rw [if_neg e]
    exact sheetM_ag (h.2.1 q hq) ha (fun z => by unfold shS at z; omega) (fun z => by unfold shS at z; omega)
theorem RC_tell {S : Sg} {m : pmMem} {v : Int32} (h : RC S m) : RC (tell S v) (pm_setF m 0 11 v) := by
  have h7 := h.2.2.2.2.2.2.1
  have h8 := h.2.2.2.2.2.2.2.1
  refine RC_upd h (ag_F (S := fun c => c = 0) (ag_refl _ _) rfl) (Or.inl ⟨rfl, fun c _ _ z => by omega⟩) (Or.inl ⟨rfl, fun c _ _ z => by omega⟩) (Or.inl ⟨rfl, fun c _ _ z => by omega⟩) (Or.inl ⟨rfl, rfl, rfl, fun c _ _ z => by omega⟩) (Or.inl ⟨rfl, rfl, rfl, fun z => by omega, fun c _ _ z => by omega⟩) (Or.inl fun c _ z => by omega) (Or.inr ⟨?_, h7.2.1, h7.2.2⟩) (Or.inr ⟨?_, h8.2.1, h8.2.2⟩) h.2.2.2.2.2.2.2.2
  · rw [pm_rF, if_pos ⟨rfl, rfl⟩]; rfl
  · rw [pm_rF, if_neg (by omega)]; exact h8.1
theorem ag65 {D : Nat → Prop} {m m' : pmMem} (h : ag D m m') (hD : ∀ c, D c → c < 65) : ag (fun c => c < 65) m m' := ag_mono hD h
theorem sh65 {m m' : pmMem} {a : Nat} (ha : a < 64) (h : ag (shS a) m m') : ag (fun c => c < 65) m m' := ag_mono (fun c z => by unfold shS at z; omega) h
theorem idx_spec {n j : Nat} {x : Int32} (hn : n < 2147483648) (h : idx n x = some j) : j < n ∧ x = nI j := by
  have h0 := h
  unfold idx at h
  split at h
  · rename_i z
    obtain ⟨q, q1, q2, q3⟩ := idx_some (n := n) (x := x) hn z.1 z.2
    rw [h0] at q1
    cases q1
    exact ⟨q2, q3⟩
  · cases h
section OPC1
variable {d : Nat} {m : pmMem} {Q : Option Value → pmMem → Prop} {S : Sg}
theorem C_row {x n : Int32} (h : RC S m) (K : okC (o_row S x n) m Q) : pm_G (d + 3) mX6_row 0 [some (.ref 0), some (.int x), some (.int n)] [] m Q := by
  have e40 : (n ≤ 40) ↔ n.toInt ≤ 40 := i32_le' (n := 40) (by omega)
  have e0 : (0 ≤ n) ↔ 0 ≤ n.toInt := i32_le (n := 0) (by omega)
  refine gX6_row_0 (c_isRow (fun r hi hr hx => ?_) (fun hi => ?_))
  · simp only [o_row, hi] at K
    refine gX6_row_4 (fun _ _ _ => ?_) (fun z => absurd z (by decide)) ?_ ?_ ?_ <;> try simp only [e40, e0]
    · rw [hx]; exact ni_in (n := 6) hr (by omega)
    · intro _ h1 h2
      rw [if_neg (by omega), if_neg (by omega)] at K
      obtain ⟨k, -, hk, hn⟩ := idx_some (n := 41) (by omega) (x := n) (by omega) (by omega)
      have hk2 : n.toInt.toNat = k := by rw [hn, nI_toInt (by omega)]; omega
      rw [hk2] at K
      rw [hx, ra_row hr, hn]
      refine c_open (kd_row hr) (h.1 r hr) (by omega) (by omega) ?_
      intro m' g1 gag
      refine gX6_row_36 ?_
      rw [← hn]
      exact K m' (RC_row h hr gag g1) (sh65 (by omega) gag)
    · intro _ h1 h2
      rw [if_neg (by omega), if_pos (by omega)] at K
      exact c_refuse (f := 5) (by omega) (by omega) h (fun m' g1 g2 => gX6_row_24 (K m' g1 g2))
    · intro _ h1
      rw [if_pos (by omega)] at K
      exact K m h (ag_refl _ _)
  · simp only [o_row, hi] at K
    exact gX6_row_4 (fun z => absurd rfl z) (fun _ => K m h (ag_refl _ _)) (fun z => absurd rfl z) (fun z => absurd rfl z) (fun z => absurd rfl z)
theorem C_text {x n : Int32} (h : RC S m) (K : okC (o_text S x n) m Q) : pm_G (d + 3) mX6_text 0 [some (.ref 0), some (.int x), some (.int n)] [] m Q := by
  have e40 : (n ≤ 60) ↔ n.toInt ≤ 60 := i32_le' (n := 60) (by omega)
  have e0 : (0 ≤ n) ↔ 0 ≤ n.toInt := i32_le (n := 0) (by omega)
  refine gX6_text_0 (c_isText (fun r hi hr hx => ?_) (fun hi => ?_))
  · simp only [o_text, hi] at K
    refine gX6_text_4 (fun _ _ _ => ?_) (fun z => absurd z (by decide)) ?_ ?_ ?_ <;> try simp only [e40, e0]
    · rw [hx]; exact ni_in (n := 4) hr (by omega)
    · intro _ h1 h2
      rw [if_neg (by omega), if_neg (by omega)] at K
      obtain ⟨k, -, hk, hn⟩ := idx_some (n := 61) (by omega) (x := n) (by omega) (by omega)
      have hk2 : n.toInt.toNat = k := by rw [hn, nI_toInt (by omega)]; omega
      rw [hk2] at K
      rw [hx, ra_text hr, hn]
      refine c_open (kd_text hr) (h.2.1 r hr) (by omega) (by omega) ?_
      intro m' g1 gag
      refine gX6_text_37 ?_
      rw [← hn]
      exact K m' (RC_text h hr gag g1) (sh65 (by omega) gag)
    · intro _ h1 h2
      rw [if_neg (by omega), if_pos (by omega)] at K
      exact c_refuse (f := 5) (by omega) (by omega) h (fun m' g1 g2 => gX6_text_24 (K m' g1 g2))
    · intro _ h1
      rw [if_pos (by omega)] at K
      exact K m h (ag_refl _ _)
  · simp only [o_text, hi] at K
    exact gX6_text_4 (fun z => absurd rfl z) (fun _ => K m h (ag_refl _ _)) (fun z => absurd rfl z) (fun z => absurd rfl z) (fun z => absurd rfl z)
theorem C_at {x i : Int32} {l3 : Option Value} (h : RC S m) (K : okC (o_at S x i) m Q) : pm_G (d + 3) mX6_at 0 [some (.ref 0), some (.int x), some (.int i), l3] [] m Q := by
  refine gX6_at_0 (c_isRow (fun r hi hr hx => ?_) (fun hi => ?_))
  · simp only [o_at, hi] at K
    have hin : vp_in x (pm_rl 1) := by rw [hx]; exact ni_in (n := 6) hr (by omega)
    refine gX6_at_4 (fun _ => hin) (fun _ => ?_) (fun z => absurd z (by decide))
    have hsh := h.1 r hr
    rw [hx, ra_row hr]
    refine c_placeFault (kd_row hr) hsh (by omega) ?_
    rw [← hx]
    refine gX6_at_19 (fun _ => hin) ?_ ?_
    · intro hz
      cases ho : sR S r with
      | none => rw [ho] at hz; exact absurd hz (show ¬ nI 1 = 0 by decide)
      | some l =>
        rw [ho] at hz hsh K
        have hl := hsh.2.2.1
        cases hj : idx l.length i with
        | none => simp only [placeF, hj] at hz; exact absurd hz (by decide)
        | some j =>
          simp only [hj] at K
          have hij := idx_spec (n := l.length) (by omega) hj
          rw [hx, ra_row hr, hij.2]
          refine c_get (kd_row hr) hsh (by omega) hij.1 ?_
          refine gX6_at_41 (fun m1 e1 => ?_)
          rw [e1]
          exact K _ (RC_tell h) (ag_F (ag_refl _ _) (by omega))
    · intro hz
      cases ho : sR S r with
      | none =>
        rw [ho] at K
        exact c_refuse (f := 1) (by omega) (by omega) h (fun m' g1 g2 => gX6_at_29 (K m' g1 g2))
      | some l =>
        rw [ho] at hz K
        cases hj : idx l.length i with
        | none =>
          simp only [hj] at K
          simp only [placeF, hj]
          exact c_refuse (f := 2) (by omega) (by omega) h (fun m' g1 g2 => gX6_at_29 (K m' g1 g2))
        | some j => simp only [placeF, hj] at hz; exact absurd rfl hz
  · simp only [o_at, hi] at K
    exact gX6_at_4 (fun z => absurd rfl z) (fun z => absurd rfl z) (fun _ => K m h (ag_refl _ _))
theorem C_tear {x : Int32} (h : RC S m) (K : okC (o_tear S x) m Q) : pm_G (d + 3) mX6_tear 0 [some (.ref 0), some (.int x)] [] m Q := by
  refine gX6_tear_0 (c_isRow (fun r hi hr hx => ?_) (fun hi => ?_))
  · simp only [o_tear, hi] at K
    have hin : vp_in x (pm_rl 1) := by rw [hx]; exact ni_in (n := 6) hr (by omega)
    have hsh := h.1 r hr
    refine gX6_tear_4 (fun _ => hin) (fun _ => ?_) (fun z => absurd z (by decide))
    rw [hx, ra_row hr]
    refine c_isMissing (kd_row hr) hsh (by omega) (fun ho => ?_) (fun l ho => ?_)
    · rw [ho] at K
      rw [← hx]
      exact gX6_tear_18 (fun _ => hin) (fun z => absurd z (by decide)) (fun _ => c_refuse (f := 1) (by omega) (by omega) h (fun m' g1 g2 => gX6_tear_26 (K m' g1 g2)))
    · rw [ho] at K
      rw [← hx]
      refine gX6_tear_18 (fun _ => hin) (fun _ => ?_) (fun z => absurd rfl z)
      rw [hx, ra_row hr]
      refine c_drop (kd_row hr) hsh (fun m' g1 gag => ?_)
      exact gX6_tear_36 (K m' (RC_row h hr gag g1) (sh65 (by omega) gag))
  · simp only [o_tear, hi] at K
    exact gX6_tear_4 (fun z => absurd rfl z) (fun z => absurd rfl z) (fun _ => K m h (ag_refl _ _))
theorem C_lay {x i v : Int32} {l4 : Option Value} (h : RC S m) (K : okC (o_lay S x i v) m Q) : pm_G (d + 3) mX6_lay 0 [some (.ref 0), some (.int x), some (.int i), some (.int v), l4] [] m Q := by
  refine gX6_lay_0 (c_isRow (fun r hi hr hx => ?_) (fun hi => ?_))
  · simp only [o_lay, hi] at K
    have hin : vp_in x (pm_rl 1) := by rw [hx]; exact ni_in (n := 6) hr (by omega)
    refine gX6_lay_4 (fun _ => hin) (fun _ => ?_) (fun z => absurd z (by decide))
    have hsh := h.1 r hr
    rw [hx, ra_row hr]
    refine c_placeFault (kd_row hr) hsh (by omega) ?_
    rw [← hx]
    refine gX6_lay_19 (fun _ => hin) ?_ ?_
    · intro hz
      cases ho : sR S r with
      | none => rw [ho] at hz; exact absurd hz (show ¬ nI 1 = 0 by decide)
      | some l =>
        rw [ho] at hz hsh K
        have hl := hsh.2.2.1
        cases hj : idx l.length i with
        | none => simp only [placeF, hj] at hz; exact absurd hz (by decide)
        | some j =>
          simp only [hj] at K
          have hij := idx_spec (n := l.length) (by omega) hj
          rw [hx, ra_row hr, hij.2]
          refine c_get (kd_row hr) hsh (by omega) hij.1 ?_
          rw [← hx]
          refine gX6_lay_44 (fun _ _ => hin) (fun m1 e1 => ?_)
          rw [hx, ra_row hr]
          have h1 : RC (tell S (l.getD j 0)) m1 := by rw [e1]; exact RC_tell h
          have hsh1 : sheetM (some l) 40 (33 + 2 * r) m1 := by
            have := h1.1 r hr
            rw [show sR (tell S (l.getD j 0)) r = sR S r from rfl, ho] at this
            exact this
          refine c_set (kd_row hr) hsh1 (by omega) hij.1 ?_
          intro m2 g1 g2 g3 gag
          have a1 : ag (fun c => c < 65) m m1 := by rw [e1]; exact ag_F (ag_refl _ _) (by omega)
          exact gX6_lay_58 (K m2 (RC_row h1 hr gag g1) (ag_trans a1 (sh65 (by omega) gag)))
    · intro hz
      cases ho : sR S r with
      | none =>
        rw [ho] at K
        exact c_refuse (f := 1) (by omega) (by omega) h (fun m' g1 g2 => gX6_lay_32 (K m' g1 g2))
      | some l =>
        rw [ho] at hz K
        cases hj : idx l.length i with
        | none =>
          simp only [hj] at K
          simp only [placeF, hj]
          exact c_refuse (f := 2) (by omega) (by omega) h (fun m' g1 g2 => gX6_lay_32 (K m' g1 g2))
        | some j => simp only [placeF, hj] at hz; exact absurd rfl hz
  · simp only [o_lay, hi] at K
    exact gX6_lay_4 (fun z => absurd rfl z) (fun z => absurd rfl z) (fun _ => K m h (ag_refl _ _))
theorem C_put {x i v : Int32} {l4 l5 : Option Value} (h : RC S m) (K : okC (o_put S x i v) m Q) : pm_G (d + 3) mX6_put 0 [some (.ref 0), some (.int x), some (.int i), some (.int v), l4, l5] [] m Q := by
  refine gX6_put_0 (c_isText (fun r hi hr hx => ?_) (fun hi => ?_))
  · simp only [o_put, hi] at K
    have hin : vp_in x (pm_rl 2) := by rw [hx]; exact ni_in (n := 4) hr (by omega)
    refine gX6_put_4 (fun _ => hin) (fun _ => ?_) (fun z => absurd z (by decide))
    have hsh := h.2.1 r hr
    rw [hx, ra_text hr]
    refine c_placeFault (kd_text hr) hsh (by omega) ?_
    rw [← hx]
    refine gX6_put_19 (fun _ => hin) ?_ ?_
    · intro hz
      cases ho : sT S r with
      | none => rw [ho] at hz; exact absurd hz (show ¬ nI 1 = 0 by decide)
      | some l =>
        rw [ho] at hz hsh K
        have hl := hsh.2.2.1
        cases hj : idx l.length i with
        | none => simp only [placeF, hj] at hz; exact absurd hz (by decide)
        | some j =>
          simp only [hj] at K
          have hij := idx_spec (n := l.length) (by omega) hj
          rw [hx, ra_text hr, hij.2]
          refine c_get (kd_text hr) hsh (by omega) hij.1 ?_
          rw [← hx]
          refine gX6_put_43 hin ?_
          rw [hx, ra_text hr]
          refine c_set (kd_text hr) hsh (by omega) hij.1 ?_
          intro m2 g1 g2 g3 gag
          exact gX6_put_57 (K m2 (RC_text h hr gag g1) (sh65 (by omega) gag))
    · intro hz
      cases ho : sT S r with
      | none =>
        rw [ho] at K
        exact c_refuse (f := 1) (by omega) (by omega) h (fun m' g1 g2 => gX6_put_32 (K m' g1 g2))
      | some l =>
        rw [ho] at hz K
        cases hj : idx l.length i with
        | none =>
          simp only [hj] at K
          simp only [placeF, hj]
          exact c_refuse (f := 2) (by omega) (by omega) h (fun m' g1 g2 => gX6_put_32 (K m' g1 g2))
        | some j => simp only [placeF, hj] at hz; exact absurd rfl hz
  · simp only [o_put, hi] at K
    exact gX6_put_4 (fun z => absurd rfl z) (fun z => absurd rfl z) (fun _ => K m h (ag_refl _ _))
theorem C_mean {x : Int32} {l2 : Option Value} (h : RC S m) (K : okC (o_mean S x) m Q) : pm_G (d + 3) mX6_mean 0 [some (.ref 0), some (.int x), l2] [] m Q := by
  refine gX6_mean_0 (c_isRow (fun r hi hr hx => ?_) (fun hi => ?_))
  · simp only [o_mean, hi] at K
    have hin : vp_in x (pm_rl 1) := by rw [hx]; exact ni_in (n := 6) hr (by omega)
    have hsh := h.1 r hr
    refine gX6_mean_4 (fun _ => hin) (fun _ => ?_) (fun z => absurd z (by decide))
    rw [hx, ra_row hr]
    refine c_isMissing (kd_row hr) hsh (by omega) (fun ho => ?_) (fun l ho => ?_)
    · rw [ho] at K
      rw [← hx]
      exact gX6_mean_18 (fun _ => hin) (fun z => absurd z (by decide)) (fun _ => c_refuse (f := 1) (by omega) (by omega) h (fun m' g1 g2 => gX6_mean_26 (K m' g1 g2)))
    · rw [ho] at K hsh
      have hl := hsh.2.2.1
      rw [← hx]
      refine gX6_mean_18 (fun _ => hin) (fun _ => ?_) (fun z => absurd rfl z)
      rw [hx, ra_row hr]
      refine c_size (kd_row hr) hsh ?_
      rw [← hx]
      have e0 : ((0 : Int32) < nI l.length) ↔ 0 < l.length := ni_lt (a := 0) (by omega) (by omega)
      refine gX6_mean_36 (fun _ => hin) ?_ ?_ <;> simp only [e0]
      · intro hp
        simp only [show ¬ l.length = 0 by omega, if_false] at K
        rw [hx, ra_row hr]
        refine c_total (kd_row hr) hsh (by omega) ?_
        rw [← hx]
        refine gX6_mean_57 ?_ (fun m1 e1 => ?_)
        · rw [nI_l (by omega)]
          intro z
          have := (lN_eq (b := 0) (by omega) (by omega)).mp z
          omega
        · rw [e1]
          exact K _ (RC_tell h) (ag_F (ag_refl _ _) (by omega))
      · intro hp
        simp only [show l.length = 0 by omega, if_true] at K
        exact c_refuse (f := 4) (by omega) (by omega) h (fun m' g1 g2 => gX6_mean_46 (K m' g1 g2))
  · simp only [o_mean, hi] at K
    exact gX6_mean_4 (fun z => absurd rfl z) (fun z => absurd rfl z) (fun _ => K m h (ag_refl _ _))
theorem C_copy {x i y j n : Int32} (h : RC S m) (K : okC (o_copy S x i y j n) m Q) : pm_G (d + 3) mX6_copy 0 [some (.ref 0), some (.int x), some (.int i), some (.int y), some (.int j), some (.int n)] [] m Q := by
  have e0 : (0 ≤ n) ↔ 0 ≤ n.toInt := i32_le (n := 0) (by omega)
  refine gX6_copy_0 (c_isRow (fun r hi hr hx => ?_) (fun hi => ?_))
  · simp only [o_copy, hi] at K
    have hin : vp_in x (pm_rl 1) := by rw [hx]; exact ni_in (n := 6) hr (by omega)
    refine gX6_copy_4 (fun z => absurd z (by decide)) (fun _ => c_isRow (fun t hi2 ht hy => ?_) (fun hi2 => ?_))
    · simp only [hi2] at K
      have hin2 : vp_in y (pm_rl 1) := by rw [hy]; exact ni_in (n := 6) ht (by omega)
      refine gX6_copy_11 (fun _ _ => hin) ?_ ?_ (fun z => absurd z (by decide)) <;> simp only [e0]
      · intro _ hn
        rw [if_neg (by omega)] at K
        have hsh := h.1 r hr
        have hsh2 := h.1 t ht
        rw [hx, ra_row hr]
        refine c_isMissing (kd_row hr) hsh (by omega) (fun ho => ?_) (fun l ho => ?_)
        · rw [ho] at K
          rw [← hx]
          exact gX6_copy_36 (fun _ => hin2) (fun _ => c_refuse (f := 1) (by omega) (by omega) h (fun m' g1 g2 => gX6_copy_56 (K m' g1 g2))) (fun z => absurd z (by decide))
        · rw [ho] at K hsh
          rw [← hx]
          refine gX6_copy_36 (fun _ => hin2) (fun z => absurd rfl z) (fun _ => ?_)
          rw [hy, ra_row ht]
          refine c_isMissing (kd_row ht) hsh2 (by omega) (fun ho2 => ?_) (fun k ho2 => ?_)
          · simp only [ho2] at K
            rw [← hy]
            exact gX6_copy_48 (fun _ => hin) (fun z => absurd z (by decide)) (fun _ => c_refuse (f := 1) (by omega) (by omega) h (fun m' g1 g2 => gX6_copy_56 (K m' g1 g2)))
          · simp only [ho2] at K
            rw [ho2] at hsh2
            rw [← hy]
            refine gX6_copy_48 (fun _ => hin) (fun _ => ?_) (fun z => absurd rfl z)
            rw [hx, ra_row hr]
            refine c_hasRun (kd_row hr) hsh (by omega) (fun f1 => ?_) (fun f1 => ?_)
            · rw [← hx]
              refine gX6_copy_69 (fun _ => hin2) (fun z => absurd z (by decide)) (fun _ => ?_)
              rw [hy, ra_row ht]
              refine c_hasRun (kd_row ht) hsh2 (by omega) (fun f2 => ?_) (fun f2 => ?_)
              · rw [← hy]
                refine gX6_copy_85 (fun _ => hin2) (fun _ => hin) (fun _ => ?_) (fun z => absurd z (by decide))
                rw [if_pos ⟨f1, f2⟩] at K
                rw [hx, hy, ra_row hr, ra_row ht]
                refine c_takeRun (kd_row ht) (kd_row hr) hsh2 hsh (by omega) (by omega) f2 f1 ?_
                intro m' g1 gag
                have gag2 : ag (shS (33 + 2 * t)) m m' := ag_mono (fun c z => Or.inr z) gag
                exact gX6_copy_114 (K m' (RC_row h ht gag2 g1) (sh65 (by omega) gag2))
              · rw [← hy]
                rw [if_neg (fun z => f2 z.2)] at K
                exact gX6_copy_85 (fun _ => hin2) (fun _ => hin) (fun z => absurd rfl z) (fun _ => c_refuse (f := 2) (by omega) (by omega) h (fun m' g1 g2 => gX6_copy_93 (K m' g1 g2)))
            · rw [← hx]
              rw [if_neg (fun z => f1 z.1)] at K
              exact gX6_copy_69 (fun _ => hin2) (fun _ => c_refuse (f := 2) (by omega) (by omega) h (fun m' g1 g2 => gX6_copy_93 (K m' g1 g2))) (fun z => absurd rfl z)
      · intro _ hn
        rw [if_pos (by omega)] at K
        exact c_refuse (f := 5) (by omega) (by omega) h (fun m' g1 g2 => gX6_copy_26 (K m' g1 g2))
    · simp only [hi2] at K
      exact gX6_copy_11 (fun z => absurd rfl z) (fun z => absurd rfl z) (fun z => absurd rfl z) (fun _ => K m h (ag_refl _ _))
  · simp only [o_copy, hi] at K
    exact gX6_copy_4 (fun _ => K m h (ag_refl _ _)) (fun z => absurd rfl z)
end OPC1
