section CAMPC
variable {d : Nat} {m : pmMem} {Q : Option Value → pmMem → Prop} {S : Sg} {n : Nat} {H : Nat → Nat × Nat × Nat}
def ldC (c : Nat) : Prop := 8 ≤ c ∧ c < 16
theorem c_landTake {l2 : Option Value} (h4 : m.1 3 4 = nI n) (hn : n ≤ 6) (h5 : (m.2.1 5).length = 6) (h6 : (m.2.1 6).length = 6) (h7 : (m.2.1 7).length = 6) (hH : hOkC n H m) (K : ∀ m', landM (n, H) m' → m'.2 = m.2 → ag ldC m m' → Q none m') : pm_G d mX2_take 0 [some (.ref 8), some (.ref 3), l2] [] m Q := by
  have loop : ∀ (k i : Nat) (m1 : pmMem), i + k = n → m1.1 8 1 = nI n → m1.2 = m.2 → ag ldC m m1 → (∀ h, h < i → m1.1 (10 + h) 0 = nI (H h).1 ∧ m1.1 (10 + h) 1 = nI (H h).2.1 ∧ m1.1 (10 + h) 2 = nI (H h).2.2) → pm_G d mX2_take 10 [some (.ref 8), some (.ref 3), some (.int (nI i))] [] m1 Q := by
    intro k
    induction k with
    | zero =>
      intro i m1 hi h1 e2 a1 inv
      have e : i = n := by omega
      subst e
      have le : m1.1 8 1 ≤ nI i := by rw [h1]; exact Int32.le_refl _
      refine gX2_take_10 (fun z => absurd le z) (fun z => absurd le z) (fun z => absurd le z) (fun z => absurd le z) (fun z => absurd le z) (fun z => absurd le z) (fun _ => K m1 ⟨h1, hn, fun h hh => ?_⟩ e2 a1) (fun z => absurd le z)
      obtain ⟨q1, q2, q3⟩ := inv h hh
      obtain ⟨_, _, _, q7⟩ := hH h hh
      exact ⟨q1, q2, q3, q7⟩
    | succ k ih =>
      intro i m1 hi h1 e2 a1 inv
      have nle : ¬ m1.1 8 1 ≤ nI i := by rw [h1]; exact nle_ni (by omega) (by omega)
      have vi : vp_in (nI i) (pm_rl 9) := ni_in (n := 6) (by omega) (by omega)
      obtain ⟨q1, q2, q3, _⟩ := hH i (by omega)
      refine gX2_take_10 (fun _ => vi) (fun _ _ _ => vi) (fun _ _ _ _ _ => vi) (fun _ m2 f2 m3 f3 => ?_) (fun _ m2 f2 => ?_) (fun _ => ?_) (fun z => absurd z nle) (fun _ m2 f2 m3 f3 m4 f4 => ?_)
      · rw [f3, f2]; show vp_in (nI i) (m1.2.1 7).length; rw [e2, h7]; exact ni_in (by omega) (by omega)
      · rw [f2]; show vp_in (nI i) (m1.2.1 6).length; rw [e2, h6]; exact ni_in (by omega) (by omega)
      · rw [e2, h5]; exact ni_in (by omega) (by omega)
      · rw [ra_hill (by omega), ni_cl (by omega)] at f2 f3 f4
        rw [e2, q1] at f2
        have g2 : m2.2 = m.2 := by rw [f2]; exact e2
        rw [g2, q2] at f3
        have g3 : m3.2 = m.2 := by rw [f3]; exact g2
        rw [g3, q3] at f4
        rw [nI_1]
        refine ih (i + 1) m4 (by omega) ?_ (by rw [f4]; exact g3) ?_ (fun h hh => ?_)
        · rw [f4, pm_rF, if_neg (by omega), f3, pm_rF, if_neg (by omega), f2, pm_rF, if_neg (by omega)]; exact h1
        · rw [f4, f3, f2]
          exact ag_F (ag_F (ag_F a1 (by unfold ldC; omega)) (by unfold ldC; omega)) (by unfold ldC; omega)
        · by_cases c : h = i
          · subst c
            refine ⟨?_, ?_, ?_⟩
            · rw [f4, pm_rF, if_neg (by omega), f3, pm_rF, if_neg (by omega), f2, pm_rF, if_pos ⟨rfl, rfl⟩]
            · rw [f4, pm_rF, if_neg (by omega), f3, pm_rF, if_pos ⟨rfl, rfl⟩]
            · rw [f4, pm_rF, if_pos ⟨rfl, rfl⟩]
          · obtain ⟨r1, r2, r3⟩ := inv h (by omega)
            refine ⟨?_, ?_, ?_⟩ <;> rw [f4, pm_rF, if_neg (by omega), f3, pm_rF, if_neg (by omega), f2, pm_rF, if_neg (by omega)]
            · exact r1
            · exact r2
            · exact r3
  refine gX2_take_0 (fun m1 e1 => ?_)
  rw [h4] at e1
  refine loop n 0 m1 (by omega) (by rw [e1, pm_rF, if_pos ⟨rfl, rfl⟩]) (by rw [e1]; rfl) (by rw [e1]; exact ag_F (ag_refl _ _) (by unfold ldC; omega)) (fun h hh => absurd hh (by omega))
def cpC (c : Nat) : Prop := (3 ≤ c ∧ c < 20) ∨ c = 25
theorem gvL_len {l : List Int32} {q : Nat} : (gvL l q).length = 12 := lst_len _
theorem readF_g {l : List Int32} (h : (readF l).1 = -9) (hl : l.length ≤ 60) : (readF l).2.2.length = 12 := by
  have sk := skip_le l 0 hl
  unfold readF at h ⊢
  by_cases c : chr l (skip l 0) = 116
  · rw [if_pos c] at h ⊢
    cases e : tnF l (skip l 0 + 1) with
    | some i =>
      rw [e] at h
      have := fstN_lt 12 e
      exact absurd h (nI_n9 (by omega))
    | none => exact gvL_len
  · rw [if_neg c] at h
    exact absurd h (nI_n9 (by omega))
theorem C_camp {x : Int32} {l2 : Option Value} (h : RC S m) (K : okC (o_camp S x) m Q) : pm_G (d + 5) mX6_camp 0 [some (.ref 0), some (.int x), l2] [] m Q := by
  have s := h.2.2.2.2.2.1
  refine gX6_camp_0 (c_isText (fun t hi ht hx => ?_) (fun hi => ?_))
  · simp only [o_camp, hi] at K
    have hin : vp_in x (pm_rl 2) := by rw [hx]; exact ni_in (n := 4) ht (by omega)
    have hsh := h.2.1 t ht
    refine gX6_camp_4 (fun _ => hin) (fun _ => ?_) (fun z => absurd z (by decide))
    rw [hx, ra_text ht]
    refine c_isMissing (kd_text ht) hsh (by omega) (fun ho => ?_) (fun l ho => ?_)
    · rw [ho] at K
      exact gX6_camp_18 (fun z => absurd z (by decide)) (fun z => absurd z (by decide)) (fun _ => c_refuse (f := 1) (by omega) (by omega) h (fun m' g1 g2 => gX6_camp_26 (K m' g1 g2)))
    · simp only [ho] at K
      rw [ho] at hsh
      refine gX6_camp_18 (fun _ => by rw [← hx]; exact hin) (fun _ => ?_) (fun z => absurd rfl z)
      rw [ra_text ht]
      refine c_read (kd_text ht) (by omega) hsh s.1 s.2.1 s.2.2.1 s.2.2.2.1 (fun m1 a1 e1 => ?_)
      have h1 := RC_rd h a1 e1.1 e1.2.1 e1.2.2.1 e1.2.2.2.1
      refine gX6_camp_40 (fun z => ?_) (fun z => ?_)
      · rw [if_pos z] at K
        obtain ⟨n1, n2, n3, n4, n5⟩ := e1.2.2.2.2 z
        have gl := readF_g z hsh.2.2.1
        generalize hN : (readF l).2.1 = LL at *
        obtain ⟨n, H⟩ := LL
        generalize (readF l).2.2 = p at *
        refine c_landTake n1 n2 e1.2.1 e1.2.2.1 e1.2.2.2.1 n4 (fun m2 L2 q2 a2 => gX6_camp_59 ?_)
        have cl2 : campLen 16 m2 := by unfold campLen; rw [q2]; exact (h1.2.2.2.1).len
        refine c_pitch (L := (n, H)) (p := p) rfl rfl cl2 (by rw [q2]; exact n5) gl (fun m3 F3 a3 => gX6_camp_73 ?_)
        have a3' : ag cpC m m3 := ag_trans (ag_mono (fun c z => by unfold rdC at z; unfold cpC; omega) a1) (ag_trans (ag_mono (fun c z => by unfold ldC at z; unfold cpC; omega) a2) (ag_mono (fun c z => by unfold inC at z; unfold cpC; omega) a3))
        have L3 : landM (n, H) m3 := landM_in rfl L2 a3
        have k25 : (m3.2.1 25).length = 3 := by
          rw [(a3 25 (by unfold inC; omega)).2.1, q2, (a1 25 (by unfold rdC; omega)).2.1]; exact h.2.2.2.2.1.1
        have loop : ∀ (k i : Nat) (m4 : pmMem), i + k = 3 → ag (fun c => c = 25) m3 m4 → (m4.2.1 25).length = 3 → (∀ j, j < i → (m4.2.1 25).getD j 0 = 0) → pm_G (d + 5) mX6_camp 75 [some (.ref 0), some (.int (nI t)), some (.int (nI i))] [] m4 Q := by
          intro k
          induction k with
          | zero =>
            intro i m4 hi a4 l4 inv
            have e : i = 3 := by omega
            subst e
            refine gX6_camp_75 (fun z => absurd (by decide) z) (fun _ => ?_) (fun z => absurd (by decide) z)
            have L4 : landM (n, H) m4 := landM_ag L3 a4 (fun c _ _ z => by omega)
            rw [L4.1]
            have a4' : ag cpC m m4 := ag_trans a3' (ag_mono (fun c z => by unfold cpC; omega) a4)
            have e4 : ∀ c, 3 ≤ c → c < 8 → m4.2.1 c = m1.2.1 c := fun c hc1 hc2 => by
              rw [(a4 c (by omega)).2.1, (a3 c (by unfold inC; omega)).2.1, q2]
            have e20 : ∀ c, 20 ≤ c → c ≠ 25 → m4.2.1 c = m.2.1 c := fun c hc1 hc2 => (a4' c (by unfold cpC; omega)).2.1
            refine K m4 (RC_upd h a4' (Or.inl ⟨rfl, fun c _ _ z => by unfold cpC at z; omega⟩) (Or.inl ⟨rfl, fun c _ _ z => by unfold cpC at z; omega⟩) (Or.inr L4) (Or.inr (campF_ag F3 a4 (fun c z w => by unfold inC at z; omega))) (Or.inr ⟨l4, fun k hk => ⟨?_, inv k hk⟩⟩) (Or.inr ⟨?_, ?_, ?_, ?_, ?_⟩) (Or.inl ⟨rfl, fun z => by unfold cpC at z; omega⟩) (Or.inl ⟨rfl, fun z => by unfold cpC at z; omega, fun z => by unfold cpC at z; omega⟩) ⟨fun x hx => (by have hx : x ∈ ([] : List Nat) := hx; cases hx), fun k ds hk => by simp [campS] at hk, fun _ => ⟨rfl, fun k => rfl⟩⟩) (ag_mono (fun c z => by unfold cpC at z; omega) a4')
            · exact campLen_ag (h.2.2.2.2.1.2 k hk).1 a4' (fun c z w => by unfold inC at z; unfold cpC at w; omega)
            · rw [e4 4 (by omega) (by omega)]; exact e1.1
            · rw [e4 5 (by omega) (by omega)]; exact e1.2.1
            · rw [e4 6 (by omega) (by omega)]; exact e1.2.2.1
            · rw [e4 7 (by omega) (by omega)]; exact e1.2.2.2.1
            · unfold campLen
              rw [e20 27 (by omega) (by omega), e20 28 (by omega) (by omega), e20 29 (by omega) (by omega), e20 30 (by omega) (by omega), e20 31 (by omega) (by omega), e20 (20 + 1) (by omega) (by omega), e20 (20 + 2) (by omega) (by omega), e20 (20 + 3) (by omega) (by omega)]
              exact s.2.2.2.2
          | succ k ih =>
            intro i m4 hi a4 l4 inv
            refine gX6_camp_75 (fun _ => by rw [l4]; exact ni_in (by omega) (by omega)) (fun z => absurd z (nle_ni (k := 3) (by omega) (by omega))) (fun _ m5 e5 => ?_)
            rw [ni_cl (by omega)] at e5
            have x5 : m5.2.1 25 = (m4.2.1 25).set i 0 := by rw [e5, pm_rA, if_pos rfl]
            rw [nI_1]
            refine ih (i + 1) m5 (by omega) (by rw [e5]; exact ag_A a4 rfl) (by rw [x5, List.length_set]; exact l4) (fun j hj => ?_)
            rw [x5, getD_set (by omega)]
            by_cases c : j = i
            · rw [if_pos c]
            · rw [if_neg c]; exact inv j (by omega)
        exact loop 3 0 m3 (by omega) (ag_refl _ _) k25 (fun j hj => absurd hj (by omega))
      · rw [if_neg z] at K
        exact K m1 h1 (ag_mono (fun c z => by unfold rdC at z; omega) a1)
  · simp only [o_camp, hi] at K
    exact gX6_camp_4 (fun z => absurd rfl z) (fun z => absurd rfl z) (fun _ => K m h (ag_refl _ _))
end CAMPC
