/-! the reference's reader -/
def rdD (c : Nat) : Prop := c = 82 ∨ c = 83
def rdE (k : Nat) : Prop := k = 24 ∨ k = 25 ∨ k = 26
def noG (k : Nat) : Prop := False
def rrM (l : List Int32) (t q n : Nat) (m : pmMem) : Prop := gridM (some l) 60 t (m.2.1 69) (m.2.1 68) ∧ (m.2.1 68).length = 240 ∧ (m.2.1 69).length = 4 ∧ t < 4 ∧ m.1 65 24 = nI t ∧ m.1 65 25 = nI q ∧ m.1 65 26 = nI n ∧ (m.2.1 82).length = 18 ∧ (m.2.1 83).length = 12
def hOkR (n : Nat) (H : Nat → Nat × Nat × Nat) (m : pmMem) : Prop := ∀ h, h < n → (m.2.1 82).getD h 0 = nI (H h).1 ∧ (m.2.1 82).getD (6 + h) 0 = nI (H h).2.1 ∧ (m.2.1 82).getD (12 + h) 0 = nI (H h).2.2 ∧ okH (H h)
theorem rr_place {l : List Int32} {t q n q' : Nat} {m m' : pmMem} (h : rrM l t q n m) (e : m' = pm_setF m 65 25 (nI q')) : rrM l t q' n m' := by
  subst e
  obtain ⟨h1, h2, h3, h4, h5, h6, h7, h8⟩ := h
  refine ⟨h1, h2, h3, h4, ?_, ?_, ?_, h8⟩
  · rw [pm_rF, if_neg (by omega)]; exact h5
  · rw [pm_rF, if_pos ⟨rfl, rfl⟩]
  · rw [pm_rF, if_neg (by omega)]; exact h7
theorem agR_p {m0 m m' : pmMem} {x : Int32} (h : agR rdD rdE noG m0 m) (e : m' = pm_setF m 65 25 x) : agR rdD rdE noG m0 m' := by
  rw [e]; exact agR_F h (by unfold rdE; omega)
section READR
variable {d : Nat} {m m0 : pmMem} {Q : Option Value → pmMem → Prop} {S : Sg} {l : List Int32} {t q n : Nat} {H : Nat → Nat × Nat × Nat}
theorem c7_byteAt (h : rrM l t q n m) (hq : q < 1000) (K : Q (some (.int (chr l q))) m) : pm_G d mX7_byteAt 0 [some (.ref 65), some (.int (nI q))] [] m Q := by
  obtain ⟨h1, h2, h3, h4, h5, h6, h7, h8⟩ := h
  have gl := h1.2.1
  have hcl : (nI t).toNatClampNeg = t := ni_cl (by omega)
  have e : ((m.2.1 69).getD t 0 ≤ nI q) ↔ l.length ≤ q := by rw [h1.1]; exact ni_le (by omega) (by omega)
  refine gX7_byteAt_0 ?_ ?_ ?_ ?_ <;> rw [h5]
  · rw [hcl, e]; intro z
    rw [show (60 : Int32) * nI t + nI q = nI (60 * t + q) from g_ix (cap := 60) (by omega) (by omega) (by omega), h2]
    exact ni_in (by omega) (by omega)
  · rw [h3]; exact ni_in h4 (by omega)
  · rw [hcl, e]; intro z
    rw [chr_out (by omega)] at K; exact K
  · rw [hcl, e]; intro z
    rw [show (60 : Int32) * nI t + nI q = nI (60 * t + q) from g_ix (cap := 60) (by omega) (by omega) (by omega), ni_cl (by omega), h1.2.2 q (by omega), chr_in (by omega)]
    exact K
theorem c7_blanks (h : rrM l t q n m) (ha : agR rdD rdE noG m0 m) (hq : q < 900) (K : ∀ m', rrM l t (skip l q) n m' → m'.2 = m.2 → agR rdD rdE noG m0 m' → Q none m') : pm_G (d + 1) mX7_blanks 0 [some (.ref 65)] [] m Q := by
  have l60 := h.1.2.1
  have loop : ∀ (k j : Nat) (m1 : pmMem), k = l.length - j → j < 900 → rrM l t j n m1 → m1.2 = m.2 → agR rdD rdE noG m0 m1 → skip l q = skp l k j → pm_G (d + 1) mX7_blanks 0 [some (.ref 65)] [] m1 Q := by
    intro k
    induction k with
    | zero =>
      intro j m1 hk hj h1 e1 a1 es
      refine gX7_blanks_0 ?_
      rw [h1.2.2.2.2.2.1]
      refine c7_byteAt h1 (by omega) ?_
      rw [chr_out (by omega)]
      refine gX7_blanks_8 (fun _ => K m1 ?_ e1 a1) (fun w => absurd w (by decide))
      rw [es]; exact h1
    | succ k ih =>
      intro j m1 hk hj h1 e1 a1 es
      refine gX7_blanks_0 ?_
      rw [h1.2.2.2.2.2.1]
      refine c7_byteAt h1 (by omega) ?_
      simp only [skp] at es
      refine gX7_blanks_8 (fun w => K m1 ?_ e1 a1) (fun w m2 e2 => ?_)
      · rw [if_neg w] at es; rw [es]; exact h1
      · rw [if_pos w] at es
        rw [h1.2.2.2.2.2.1, nI_1] at e2
        exact ih (j + 1) m2 (by omega) (by omega) (rr_place h1 e2) (by rw [e2]; exact e1) (agR_p a1 e2) es
  exact loop (l.length - q) q m rfl hq h rfl ha rfl
theorem c7_figure {lo hi : Nat} {l3 : Option Value} (h : rrM l t q n m) (hq : q < 900) (hh : hi < 10) (hlo : lo < 10) (kt : ∀ v m', figO l q = some v → lo ≤ v → v ≤ hi → m' = pm_setF m 65 25 (nI (q + 1)) → Q (some (.int (nI v))) m') (kf : (∀ v, figO l q = some v → v < lo ∨ hi < v) → Q (some (.int (-1))) m) : pm_G (d + 1) mX7_figure 0 [some (.ref 65), some (.int (nI lo)), some (.int (nI hi)), l3] [] m Q := by
  refine gX7_figure_0 ?_
  rw [h.2.2.2.2.2.1]
  refine c7_byteAt h (by omega) (gX7_figure_8 (c7_in (fun h1 h2 => ?_) (fun hn => ?_)))
  · rw [t64, t64, nI_toInt (by omega)] at h1
    rw [t64, t64, nI_toInt (by omega)] at h2
    obtain ⟨v, e1, e2, e3⟩ := idx_some (n := 10) (x := chr l q - 48) (by omega) (by omega) (by omega)
    rw [e3, nI_toInt (by omega)] at h1 h2
    refine gX7_figure_21 (fun _ m1 em => ?_) (fun z => absurd z (by decide))
    rw [h.2.2.2.2.2.1, nI_1] at em
    rw [e3]
    exact kt v m1 e1 (by omega) (by omega) em
  · refine gX7_figure_21 (fun z => absurd rfl z) (fun _ => kf (fun v hv => ?_))
    have e3 := (figO_lt hv).2
    have v10 := (figO_lt hv).1
    rw [t64, t64, t64, nI_toInt (by omega), nI_toInt (by omega), e3, nI_toInt (by omega)] at hn
    omega
end READR
