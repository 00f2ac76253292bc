/-! deeds by lot -/
def lotN (q : Nat) : Nat := 48271 * q % 2147483647
def lotD (n q : Nat) : Nat := if q / 8 % 4 = 0 then 0 else if q / 8 % 4 = 1 then 200 + 12 * (q % 12) + (q % 12 + 1) % 12 else 100 + q % n
def lotL (L : Nat) : Nat → Nat → List Nat
  | 0, _ => []
  | n + 1, q => lotD L (lotN q) :: lotL L n (lotN q)
def o_lots (S : Sg) (x y : Int32) : Int32 × Sg := if 1 ≤ x.toInt ∧ x.toInt ≤ 20 ∧ 1 ≤ y.toInt ∧ y.toInt ≤ 2147483646 then
    if (sL S).1 = 0 then (-4, S) else if 40 < (sD S).length + x.toNatClampNeg then (-2, S) else ((sS (setD S (sD S ++ lotL (sL S).1 x.toNatClampNeg y.toNatClampNeg))).2.2.1, setD S (sD S ++ lotL (sL S).1 x.toNatClampNeg y.toNatClampNeg))
  else (-1, S)
theorem lotN_lt (q : Nat) : lotN q < 2147483647 := Nat.mod_lt _ (by omega)
theorem lotD_ok {L : Ld} {q : Nat} (h : L.1 ≠ 0) : okDeed L (lotD L.1 q) := by
  unfold lotD
  split
  · exact Or.inl (by omega)
  · split
    · exact Or.inr (Or.inr ⟨by omega, by omega⟩)
    · have := Nat.mod_lt q (show 0 < L.1 by omega)
      exact Or.inr (Or.inl ⟨by omega, by omega⟩)
theorem nI_pn {x : Int32} (h : 1 ≤ x.toInt) (h2 : x.toInt ≤ 2147483646) : x = nI x.toNatClampNeg ∧ (x.toNatClampNeg : Int) = x.toInt := by
  obtain ⟨k, -, hk, hn⟩ := idx_some (n := 2147483647) (by omega) (x := x) (by omega) (by omega)
  rw [hn, ni_cl (by omega), nI_toInt (by omega)]
  exact ⟨rfl, rfl⟩
section LOTS
variable {d : Nat} {m : pmMem} {Q : Option Value → pmMem → Prop} {S : Sg}
theorem c_deedByLot {q : Nat} {l2 l3 : Option Value} (hL : landM (sL S) m) (h0 : (sL S).1 ≠ 0) (hq : q < 2147483647) (K : Q (some (.int (nI (lotD (sL S).1 q)))) m) : pm_G d mX6_deedByLot 0 [some (.ref 0), some (.int (nI q)), l2, l3] [] m Q := by
  have hL6 := hL.2.1
  have e8 : (nI q / 8) - (nI q / 8) / 4 * 4 = nI (q / 8 % 4) := by
    rw [show (8 : Int32) = nI 8 from rfl, pk_div (by omega) (by omega) (by omega), show (4 : Int32) = nI 4 from rfl, pk_rem (by omega) (by omega) (by omega)]
  have e12 : nI q - nI q / 12 * 12 = nI (q % 12) := by
    rw [show (12 : Int32) = nI 12 from rfl, pk_rem (by omega) (by omega) (by omega)]
  have e13 : (nI (q % 12) + 1) - (nI (q % 12) + 1) / 12 * 12 = nI ((q % 12 + 1) % 12) := by
    rw [nI_1, show (12 : Int32) = nI 12 from rfl, pk_rem (by omega) (by omega) (by omega)]
  have z0 : (nI (q / 8 % 4) = 0) ↔ q / 8 % 4 = 0 := ni_eq (b := 0) (by omega) (by omega)
  have z1 : (nI (q / 8 % 4) = 1) ↔ q / 8 % 4 = 1 := ni_eq (b := 1) (by omega) (by omega)
  have zp : ((0 : Int32) < nI (sL S).1) ↔ 0 < (sL S).1 := ni_lt (a := 0) (by omega) (by omega)
  refine gX6_deedByLot_0 ?_ ?_ ?_ ?_ ?_ <;> rw [e8] <;> simp only [z0, z1, hL.1, zp]
  · intro _ _ _ z
    have := (ni_eq (b := 0) (by omega) (by omega)).mp z
    omega
  · intro z; simp only [lotD, if_pos z] at K; exact K
  · intro a _ b
    simp only [lotD, if_neg a, if_neg b] at K
    rw [pk_rem (by omega) (by omega) (by omega), show (100 : Int32) = nI 100 from rfl, nI_add]; exact K
  · intro a _ b
    simp only [lotD, if_neg a, if_pos b] at K
    rw [e12, e13, show (12 : Int32) = nI 12 from rfl, pk_mul, show (200 : Int32) = nI 200 from rfl, nI_add, nI_add]; exact K
  · intro _ z; omega
theorem C_lotsL {x2 : Int32} {N : Nat} (hN : N ≤ 20) : ∀ (n t q : Nat) (S : Sg) (m : pmMem), t + n = N → RC S m → (sD S).length + n ≤ 40 → (sL S).1 ≠ 0 → q < 2147483647 → okC ((sS (setD S (sD S ++ lotL (sL S).1 n q))).2.2.1, setD S (sD S ++ lotL (sL S).1 n q)) m Q → pm_G (d + 5) mX6_lots 57 [some (.ref 0), some (.int (nI N)), some (.int x2), some (.int (nI q)), some (.int (nI t))] [] m Q := by
  intro n
  induction n with
  | zero =>
    intro t q S m ht h h40 h0 hq K
    have e : (nI N ≤ nI t) ↔ N ≤ t := ni_le (by omega) (by omega)
    refine gX6_lots_57 (fun _ => ?_) (fun z => absurd (e.mpr (by omega)) z)
    have es : setD S (sD S ++ lotL (sL S).1 0 q) = S := by show setD S (sD S ++ []) = S; rw [List.append_nil]; rfl
    rw [es] at K
    rw [h.2.2.2.1.1.2.2.1]
    exact K m h (ag_refl _ _)
  | succ n ih =>
    intro t q S m ht h h40 h0 hq K
    have e : (nI N ≤ nI t) ↔ N ≤ t := ni_le (by omega) (by omega)
    refine gX6_lots_57 (fun z => absurd (e.mp z) (by omega)) (fun _ v1 ev => ?_)
    rw [nI_l (by omega), show (48271 : Int64) = lN 48271 from rfl, lN_mul, show (2147483647 : Int64) = lN 2147483647 from rfl, pk_lRem (by omega) (by omega) (by omega), lN_i] at ev
    have ev : v1 = nI (lotN q) := ev
    rw [ev]
    refine c_deedByLot h.2.2.1 h0 (lotN_lt q) (gX6_lots_84 (c_deed h (by omega) (lotD_ok h0) h0 (fun m' a b => gX6_lots_87 ?_)))
    rw [nI_1]
    refine ih (t + 1) (lotN q) _ m' (by omega) a ?_ h0 (lotN_lt q) ?_
    · show (sD S ++ [_]).length + n ≤ 40
      rw [List.length_append]; show (sD S).length + 1 + n ≤ 40; omega
    · have es : setD (setD S (sD S ++ [lotD (sL S).1 (lotN q)])) (sD (setD S (sD S ++ [lotD (sL S).1 (lotN q)])) ++ lotL (sL (setD S (sD S ++ [lotD (sL S).1 (lotN q)]))).1 n (lotN q)) = setD S (sD S ++ lotL (sL S).1 (n + 1) q) := by
        show setD S ((sD S ++ [lotD (sL S).1 (lotN q)]) ++ lotL (sL S).1 n (lotN q)) = _
        rw [List.append_assoc]; rfl
      rw [es]
      exact fun m2 g1 g2 => K m2 g1 (ag_trans b g2)
theorem C_lots {x y : Int32} {l3 l4 : Option Value} (h : RC S m) (K : okC (o_lots S x y) m Q) : pm_G (d + 5) mX6_lots 0 [some (.ref 0), some (.int x), some (.int y), l3, l4] [] m Q := by
  have hL := h.2.2.1
  have hC := h.2.2.2.1
  have e1 : (x < 1) ↔ x.toInt < 1 := by rw [Int32.lt_iff_toInt_lt]; rfl
  have e2 : (20 < x) ↔ 20 < x.toInt := by rw [Int32.lt_iff_toInt_lt]; rfl
  have e3 : (y < 1) ↔ y.toInt < 1 := by rw [Int32.lt_iff_toInt_lt]; rfl
  have e4 : (y < 2147483647) ↔ y.toInt < 2147483647 := by rw [Int32.lt_iff_toInt_lt]; rfl
  unfold o_lots at K
  refine gX6_lots_0 ?_ ?_ ?_ ?_ ?_ <;> simp only [e1, e2, e3, e4]
  · intro z; rw [if_neg (by omega)] at K; exact K m h (ag_refl _ _)
  · intro _ z; rw [if_neg (by omega)] at K; exact K m h (ag_refl _ _)
  · intro _ _ z; rw [if_neg (by omega)] at K; exact K m h (ag_refl _ _)
  · intro a b c e
    rw [if_pos ⟨by omega, by omega, by omega, by omega⟩] at K
    obtain ⟨x1, x2⟩ := nI_pn (x := x) (by omega) (by omega)
    obtain ⟨y1, y2⟩ := nI_pn (x := y) (by omega) (by omega)
    generalize x.toNatClampNeg = N at x1 x2 K
    generalize y.toNatClampNeg = q at y1 y2 K
    refine c_hasNoHills hL (fun hz => ?_) (fun hz => ?_)
    · rw [if_pos hz] at K
      exact gX6_lots_29 (fun z => absurd z (by decide)) (fun z => absurd z (by decide)) (fun _ => K m h (ag_refl _ _))
    · rw [if_neg hz] at K
      have h40 := hC.2.2.2.2.1
      have es : ((m.1 16 4) + x ≤ 40) ↔ (sD S).length + N ≤ 40 := by rw [hC.2.2.2.1, x1, nI_add]; exact ni_le (b := 40) (by omega) (by omega)
      refine gX6_lots_29 ?_ ?_ (fun z => absurd rfl z) <;> simp only [es]
      · intro _ z
        rw [if_neg (by omega)] at K
        rw [x1, y1]
        exact C_lotsL (by omega) N 0 q S m (by omega) h z hz (by omega) K
      · intro _ z
        rw [if_pos (by omega)] at K
        exact K m h (ag_refl _ _)
  · intro _ _ _ z; rw [if_neg (by omega)] at K; exact K m h (ag_refl _ _)
theorem R_lotsL {x2 : Int32} {N : Nat} (hN : N ≤ 20) : ∀ (n t q : Nat) (S : Sg) (m : pmMem) (l4 l6 l7 l8 : Option Value), t + n = N → RR S m → (sD S).length + n ≤ 40 → (sL S).1 ≠ 0 → q < 2147483647 → okR ((sS (setD S (sD S ++ lotL (sL S).1 n q))).2.2.1, setD S (sD S ++ lotL (sL S).1 n q)) m Q → pm_G (d + 7) mX7_lots 56 [some (.ref 65), some (.int (nI N)), some (.int x2), some (.long (lN q)), l4, some (.int (nI t)), l6, l7, l8] [] m Q := by
  intro n
  induction n with
  | zero =>
    intro t q S m l4 l6 l7 l8 ht h h40 h0 hq K
    have e : (nI N ≤ nI t) ↔ N ≤ t := ni_le (by omega) (by omega)
    have le := e.mpr (show N ≤ t by omega)
    refine gX7_lots_56 (fun z => absurd le z) (fun _ => ?_) (fun z => absurd le z) (fun z => absurd le z) (fun z => absurd le z)
    have es : setD S (sD S ++ lotL (sL S).1 0 q) = S := by show setD S (sD S ++ []) = S; rw [List.append_nil]; rfl
    rw [es] at K
    rw [h.2.2.2.2.1.2.2.2.1]
    exact K m h (ag_refl _ _)
  | succ n ih =>
    intro t q S m l4 l6 l7 l8 ht h h40 h0 hq K
    have hL6 := h.2.2.1.2.1
    have f4 := h.2.2.1.1
    have e : (nI N ≤ nI t) ↔ N ≤ t := ni_le (by omega) (by omega)
    have nle : ¬ nI N ≤ nI t := fun z => absurd (e.mp z) (by omega)
    have lt := lotN_lt q
    have go : ∀ (x v2 v3 w : Int32), x = nI (encR (lotD (sL S).1 (lotN q))) → pm_G (d + 6) mX7_doIt 0 [some (.ref 65), some (.int x)] [] m (fun r m' => pm_G (d + 7) mX7_lots 143 [some (.ref 65), some (.int (nI N)), some (.int x2), some (.long (lN (lotN q))), none, some (.int (nI t)), some (.int v2), some (.int w), some (.int v3)] (pm_psh r []) m' Q) := by
      intro x v2 v3 w hx
      refine c7_doItS h hx (by omega) (lotD_ok h0) h0 (fun m' a _ b => gX7_lots_143 ?_)
      rw [nI_1]
      refine ih (t + 1) (lotN q) _ m' _ _ _ _ (by omega) a ?_ h0 (lotN_lt q) ?_
      · show (sD S ++ [_]).length + n ≤ 40
        rw [List.length_append]; show (sD S).length + 1 + n ≤ 40; omega
      · have es : setD (setD S (sD S ++ [lotD (sL S).1 (lotN q)])) (sD (setD S (sD S ++ [lotD (sL S).1 (lotN q)])) ++ lotL (sL (setD S (sD S ++ [lotD (sL S).1 (lotN q)]))).1 n (lotN q)) = setD S (sD S ++ lotL (sL S).1 (n + 1) q) := by
          show setD S ((sD S ++ [lotD (sL S).1 (lotN q)]) ++ lotL (sL S).1 n (lotN q)) = _
          rw [List.append_assoc]; rfl
        rw [es]
        exact fun m2 g1 g2 => K m2 g1 (ag_trans b g2)
    have E1 : ∀ v1 : Int64, v1 = ((lN q * 48271) - (lN q * 48271) / 2147483647 * 2147483647) → v1 = lN (lotN q) := by
      intro v1 ev
      rw [show (48271 : Int64) = lN 48271 from rfl, lN_mul, show (2147483647 : Int64) = lN 2147483647 from rfl, pk_lRem (by omega) (by omega) (by omega), Nat.mul_comm] at ev
      exact ev
    have E2 : Int64.toInt32 ((lN (lotN q) / 8) - (lN (lotN q) / 8) / 4 * 4) = nI (lotN q / 8 % 4) := by
      rw [show (8 : Int64) = lN 8 from rfl, pk_lDiv (by omega) (by omega) (by omega), show (4 : Int64) = lN 4 from rfl, pk_lRem (by omega) (by omega) (by omega), lN_i]
    have E3 : Int64.toInt32 (lN (lotN q) - lN (lotN q) / (Int32.toInt64 (m.1 65 4)) * (Int32.toInt64 (m.1 65 4))) = nI (lotN q % (sL S).1) := by
      rw [f4, nI_l (by omega), pk_lRem (by omega) (by omega) (by omega), lN_i]
    have E4 : Int64.toInt32 (lN (lotN q) - lN (lotN q) / 12 * 12) = nI (lotN q % 12) := by
      rw [show (12 : Int64) = lN 12 from rfl, pk_lRem (by omega) (by omega) (by omega), lN_i]
    have z0 : (nI (lotN q / 8 % 4) = 0) ↔ lotN q / 8 % 4 = 0 := ni_eq (b := 0) (by omega) (by omega)
    have z1 : (nI (lotN q / 8 % 4) = 1) ↔ lotN q / 8 % 4 = 1 := ni_eq (b := 1) (by omega) (by omega)
    refine gX7_lots_56 (fun _ v1 ev v2 ev2 z => ?_) (fun z => absurd z nle) (fun _ v1 ev v2 ev2 v3 ev3 => ?_) (fun _ v1 ev v2 ev2 v3 ev3 => ?_) (fun _ v1 ev v2 ev2 v3 ev3 => ?_)
    · rw [f4, nI_l (by omega)] at z
      have := (l0 (by omega)).mp z
      omega
    · have ev := E1 v1 ev
      subst ev
      rw [E2] at ev2
      rw [E3] at ev3
      rw [ev2, ev3, z0, z1]
      intro a b
      refine go _ _ _ _ ?_
      unfold lotD encR
      rw [if_neg a, if_neg b, if_pos (by omega), Nat.add_sub_cancel_left]
    · have ev := E1 v1 ev
      subst ev
      rw [E2] at ev2
      rw [E3] at ev3
      rw [ev2, ev3, z0, z1]
      intro a b
      refine go _ _ _ _ ?_
      unfold lotD encR
      rw [if_neg a, if_pos b, if_pos (by omega), E4, nI_1, show (12 : Int32) = nI 12 from rfl, pk_rem (by omega) (by omega) (by omega), pk_mul, show (100 : Int32) = nI 100 from rfl, nI_add, nI_add]
      exact congrArg nI (by omega)
    · have ev := E1 v1 ev
      subst ev
      rw [E2] at ev2
      rw [E3] at ev3
      rw [ev2, ev3, z0]
      intro a
      refine go _ _ _ _ ?_
      unfold lotD encR
      rw [if_pos a]
      rfl
theorem R_lots {x y : Int32} {l3 l4 l5 l6 l7 l8 : Option Value} (h : RR S m) (K : okR (o_lots S x y) m Q) : pm_G (d + 7) mX7_lots 0 [some (.ref 65), some (.int x), some (.int y), l3, l4, l5, l6, l7, l8] [] m Q := by
  have hL := h.2.2.1
  have hL6 := hL.2.1
  have hC := h.2.2.2.1
  have h40 := hC.2.2.2.1
  have e0 : (m.1 65 4 = 0) ↔ (sL S).1 = 0 := by rw [hL.1]; exact ni_eq (b := 0) (by omega) (by omega)
  unfold o_lots at K
  refine gX7_lots_0 (c7_in (fun a b => ?_) (fun z => ?_))
  · rw [t64, show (1 : Int64).toInt = 1 from rfl] at a
    rw [t64, show (20 : Int64).toInt = 20 from rfl] at b
    refine gX7_lots_9 (fun z => absurd z (by decide)) (fun _ => c7_in (fun c e => ?_) (fun z => ?_))
    · rw [t64, show (1 : Int64).toInt = 1 from rfl] at c
      rw [t64, show (2147483646 : Int64).toInt = 2147483646 from rfl] at e
      rw [if_pos ⟨by omega, by omega, by omega, by omega⟩] at K
      obtain ⟨x1, x2⟩ := nI_pn (x := x) (by omega) (by omega)
      obtain ⟨y1, y2⟩ := nI_pn (x := y) (by omega) (by omega)
      generalize x.toNatClampNeg = N at x1 x2 K
      generalize y.toNatClampNeg = q at y1 y2 K
      have es : ((m.1 65 10) + x ≤ 40) ↔ (sD S).length + N ≤ 40 := by rw [hC.2.2.1, x1, nI_add]; exact ni_le (b := 40) (by omega) (by omega)
      refine gX7_lots_21 ?_ ?_ ?_ (fun z => absurd z (by decide)) <;> simp only [e0, es]
      · intro _ hz z
        rw [if_neg hz, if_neg (by omega)] at K
        rw [x1, y1, nI_l (by omega)]
        exact R_lotsL (by omega) N 0 q S m _ _ _ _ (by omega) h z hz (by omega) K
      · intro _ hz z
        rw [if_neg hz, if_pos (by omega)] at K
        exact K m h (ag_refl _ _)
      · intro _ hz
        rw [if_pos hz] at K
        exact K m h (ag_refl _ _)
    · rw [t64, show (1 : Int64).toInt = 1 from rfl, show (2147483646 : Int64).toInt = 2147483646 from rfl] at z
      rw [if_neg (by omega)] at K
      exact gX7_lots_21 (fun z => absurd rfl z) (fun z => absurd rfl z) (fun z => absurd rfl z) (fun _ => K m h (ag_refl _ _))
  · rw [t64, show (1 : Int64).toInt = 1 from rfl, show (20 : Int64).toInt = 20 from rfl] at z
    rw [if_neg (by omega)] at K
    exact gX7_lots_9 (fun _ => K m h (ag_refl _ _)) (fun z => absurd rfl z)
end LOTS
