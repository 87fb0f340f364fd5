/-! all of the message: the reference -/
def dS (k : Nat) : Nat := if k = 2 ∨ k = 4 then 1 else if k = 3 then 50 else 0
theorem m_init_loop {V0 : z_W} {Q : z_W → Option z_V → Prop} (K : ∀ v, qF V0 v → (∀ k, ¬ k = 2 → v.1 k = V0.1 k) → (∀ k, k < 10 → v.1 2 0 (250 + k) = iN (dS k)) → mRun kX_readAll (76, [some (zR 0 0), some (zI 250), some (zI 10)], [], v) Q) : ∀ (d i : Nat) (v : z_W), i + d = 10 → qF V0 v → (∀ k, ¬ k = 2 → v.1 k = V0.1 k) → (∀ k, k < i → v.1 2 0 (250 + k) = iN (dS k)) →
    mRun kX_readAll (31, [some (zR 0 0), some (zI 250), some (zI (iN i))], [], v) Q := by
  intro d
  induction d with
  | zero =>
    intro i v hi hq h2 hv
    have e : i = 10 := by omega
    subst e
    refine z_C.go 3 rfl ?_
    refine z_C.if (fun _ => ?_) (fun h => absurd (by decide) h)
    exact K v hq h2 hv
  | succ d ih =>
    intro i v hi hq h2 hv
    obtain ⟨-, ij, nj⟩ := j250 (k := i) (by omega)
    have step : mRun kX_readAll (31, [some (zR 0 0), some (zI 250), some (zI (iN i + 1))], [], z_si v 2 0 ((250 : Int32) + iN i).toNatClampNeg (iN (dS i))) Q := by
      rw [nj]
      have k9 := ih (i + 1) (z_si v 2 0 (250 + i) (iN (dS i))) (by omega) (hq.tr ⟨rfl, fun g j k _ _ c _ => if_neg (fun h => c ⟨h.1, by omega⟩)⟩) (fun k hk => by
        rw [← h2 k hk]
        funext a b
        exact if_neg (fun h => hk h.1)) (fun k hk => by
        show (if 2 = 2 ∧ 0 = 0 ∧ 250 + k = 250 + i then iN (dS i) else v.1 2 0 (250 + k)) = iN (dS k)
        by_cases e : k = i
        · rw [if_pos ⟨rfl, rfl, by omega⟩, e]
        · rw [if_neg (fun h => by omega)]
          exact hv k (by omega))
      rw [← iN_add i 1] at k9
      exact k9
    refine z_C.go 3 rfl ?_
    refine z_C.if (fun h => absurd ((iN_le (a := 10) (by decide) (by omega)).mp h) (by omega)) (fun _ => ?_)
    refine z_C.go 8 rfl ?_
    refine z_C.if (fun h => ?_) (fun h => ?_)
    · have h : i = 2 := (iN_inj (b := 2) (by omega) (by decide)).mp h
      have e : dS i = 1 := by rw [h]; rfl
      rw [e] at step
      refine z_C.go 2 rfl ?_
      refine z_C.go1 rfl (if_pos ⟨rfl, ij⟩) ?_
      refine z_C.go 2 rfl ?_
      exact step
    · have n2 : ¬ i = 2 := fun h9 => h ((iN_inj (b := 2) (by omega) (by decide)).mpr h9)
      refine z_C.go 3 rfl ?_
      refine z_C.if (fun h => ?_) (fun h => ?_)
      · have h : i = 4 := (iN_inj (b := 4) (by omega) (by decide)).mp h
        have e : dS i = 1 := by rw [h]; rfl
        rw [e] at step
        refine z_C.go 2 rfl ?_
        refine z_C.go1 rfl (if_pos ⟨rfl, ij⟩) ?_
        refine z_C.go 2 rfl ?_
        exact step
      · have n4 : ¬ i = 4 := fun h9 => h ((iN_inj (b := 4) (by omega) (by decide)).mpr h9)
        refine z_C.go 3 rfl ?_
        refine z_C.if (fun h => ?_) (fun h => ?_)
        · have h : i = 3 := (iN_inj (b := 3) (by omega) (by decide)).mp h
          have e : dS i = 50 := by rw [h]; rfl
          rw [e] at step
          refine z_C.go 2 rfl ?_
          refine z_C.go1 rfl (if_pos ⟨rfl, ij⟩) ?_
          refine z_C.go 2 rfl ?_
          exact step
        · have n3 : ¬ i = 3 := fun h9 => h ((iN_inj (b := 3) (by omega) (by decide)).mpr h9)
          have e : dS i = 0 := by unfold dS; rw [if_neg (by omega), if_neg n3]
          rw [e] at step
          refine z_C.go 1 rfl ?_
          refine z_C.go1 rfl (if_pos ⟨rfl, ij⟩) ?_
          refine z_C.go 2 rfl ?_
          exact step
theorem grpR_ge' {D : Nat → Nat} {len : Nat} : ∀ (f p : Nat) (G : List Nat) (G' : List Nat) (p' : Nat), grpR D len f p G (some (G', p')) → p ≤ p' := by
  intro f
  induction f with
  | zero => intro p G G' p' h; cases h; exact Nat.le_refl _
  | succ f ih =>
    intro p G G' p' h
    rcases h with ⟨-, h2, h3⟩ | ⟨-, -, h3⟩ | ⟨-, h3⟩
    · have := ih _ _ _ _ h3
      have := sE_ge h2.1
      omega
    · cases h3
    · cases h3
      exact Nat.le_refl _
theorem grpR_ge {D : Nat → Nat} {len f p : Nat} {G G' : List Nat} {p' : Nat} (h : grpR D len f p G (some (G', p'))) : p ≤ p' := grpR_ge' f p G G' p' h
/-- what the reference knows of a message that was read -/
def mMs (D : Nat → Nat) (len : Nat) (o : Option (List Nat × Option (List Nat) × Nat)) (v : z_W) : Prop := v.1 0 0 13 = iN (if o.isSome = true then 1 else 0) ∧ ∀ G1 g2 d, o = some (G1, g2, d) → mJ1 D G1 v ∧ mSet (setL D (g2.getD []) (some dS)) v ∧ v.1 0 0 15 = iN (if g2.isSome = true then 1 else 0) ∧ v.1 2 0 258 = 0 ∧ v.1 0 0 20 = iN d ∧ d ≤ len
theorem m_readAll {D : Nat → Nat} {len : Nat} {o : Option (List Nat × Option (List Nat) × Nat)} {v : z_W} {Q : z_W → Option z_V → Prop} (hr : parR D len o) (hd : mD len D v) (K : ∀ v', qF v v' → mMs D len o v' → Q v' none) : mRun kX_readAll (0, [some (zR 0 0), none, none], [], v) Q := by
  have hlen := hd.1
  -- the last four lines
  have last0 : ∀ v9 : z_W, qF v v9 → v9.1 0 0 13 = 0 → o = none → mRun kX_readAll (149, [some (zR 0 0), some (zI 250), some (zI 10)], [], v9) Q := fun v9 hq h13 ho => by
    refine z_C.go 2 rfl ?_
    refine z_C.ld rfl rfl h13 ?_
    refine z_C.go 1 rfl ?_
    refine z_C.if (fun _ => ?_) (fun h => absurd (by decide) h)
    refine z_C.go 6 rfl ?_
    refine z_C.ret rfl rfl (K _ (hq.tr ⟨rfl, fun g i k a _ _ _ => (if_neg (fun h => a ⟨h.1, by omega, by omega⟩)).trans (if_neg (fun h => a ⟨h.1, by omega, by omega⟩))⟩) ⟨by rw [ho]; rfl, fun _ _ _ h => by rw [ho] at h; cases h⟩)
  have last1 : ∀ (v9 : z_W) (p : Nat), qF v v9 → v9.1 0 0 13 = 1 → v9.1 0 0 14 = iN p → p < len → (D p = 3 → ∀ v', qF v9 v' → (∀ k, ¬ k = 13 → ¬ k = 14 → ¬ k = 20 → v'.1 0 0 k = v9.1 0 0 k) → (∀ k, v'.1 2 0 k = v9.1 2 0 k) → v'.1 0 0 13 = 1 → v'.1 0 0 20 = iN (p + 1) → Q v' none) → (¬ D p = 3 → o = none) → mRun kX_readAll (149, [some (zR 0 0), some (zI 250), some (zI 10)], [], v9) Q := fun v9 p hq h13 h14 hp K3 hno => by
    have hd9 := hd.q hq
    have hDp := (hd.2.2 p hp).2
    refine z_C.go 2 rfl ?_
    refine z_C.ld rfl rfl h13 ?_
    refine z_C.go 1 rfl ?_
    refine z_C.if (fun h => absurd h (by decide)) (fun _ => ?_)
    refine z_C.go 2 rfl ?_
    refine z_C.call rfl rfl (m_num (b := true) (p := p) (n := 1) (Q := fun v' r => r = some (zI (iN (D p))) ∧ nF1 v9 v' ∧ v'.1 0 0 14 = iN (p + 1)) hd9 (by rw [h13, show gI true len p = 1 from if_pos ⟨rfl, by omega⟩]; rfl) h14 (by omega) (by decide) (fun v' x a b c d => ⟨by rw [d ⟨rfl, by omega⟩, numF_1], a, c⟩)) (fun v1 r h => ?_)
    obtain ⟨rfl, f1, a1⟩ := h
    refine z_C.go 2 rfl ?_
    refine z_C.if (fun h => ?_) (fun h => ?_)
    · have h3 : D p = 3 := (iN_inj (b := 3) (by omega) (by decide)).mp h
      refine z_C.go 5 rfl ?_
      refine z_C.ld rfl rfl (show (z_si v1 0 0 13 1).1 0 0 14 = iN (p + 1) from a1) ?_
      refine z_C.go 1 rfl ?_
      exact z_C.ret rfl rfl (K3 h3 _ (f1.q.tr ⟨rfl, fun g i k a _ _ _ => (if_neg (fun h => a ⟨h.1, by omega, by omega⟩)).trans (if_neg (fun h => a ⟨h.1, by omega, by omega⟩))⟩) (fun k a b c => (if_neg (fun h => c h.2.2)).trans ((if_neg (fun h => a h.2.2)).trans (f1.2 0 0 k (by omega)))) (fun k => f1.2 2 0 k (by omega)) rfl rfl)
    · have h3 : ¬ D p = 3 := fun h9 => h (by rw [h9]; rfl)
      have ho := hno h3
      refine z_C.go 4 rfl ?_
      refine z_C.ld rfl rfl (show (z_si v1 0 0 13 0).1 0 0 14 = iN (p + 1) from a1) ?_
      refine z_C.go 1 rfl ?_
      exact z_C.ret rfl rfl (K _ ((hq.tr f1.q).tr ⟨rfl, fun g i k a _ _ _ => (if_neg (fun h => a ⟨h.1, by omega, by omega⟩)).trans (if_neg (fun h => a ⟨h.1, by omega, by omega⟩))⟩) ⟨by rw [ho]; rfl, fun _ _ _ h => by rw [ho] at h; cases h⟩)
  refine z_C.go 19 rfl ?_
  have q0 : qF v (z_si (z_si (z_si (z_si (z_si v 0 0 13 1) 0 0 15 0) 0 0 16 0) 0 0 18 1) 0 0 19 0) := ⟨rfl, fun g i k a _ _ _ => (if_neg (fun h => a ⟨h.1, by omega, by omega⟩)).trans ((if_neg (fun h => a ⟨h.1, by omega, by omega⟩)).trans ((if_neg (fun h => a ⟨h.1, by omega, by omega⟩)).trans ((if_neg (fun h => a ⟨h.1, by omega, by omega⟩)).trans (if_neg (fun h => a ⟨h.1, by omega, by omega⟩)))))⟩
  refine m_init_loop (V0 := z_si (z_si (z_si (z_si (z_si v 0 0 13 1) 0 0 15 0) 0 0 16 0) 0 0 18 1) 0 0 19 0) (fun v1 hq1 hz1 hS1 => ?_) 10 0 _ rfl (qF.rf _) (fun _ _ => rfl) (fun k hk => by omega)
  have z1 : ∀ k, v1.1 0 0 k = (z_si (z_si (z_si (z_si (z_si v 0 0 13 1) 0 0 15 0) 0 0 16 0) 0 0 18 1) 0 0 19 0).1 0 0 k := fun k => by rw [hz1 0 (by decide)]
  have c13 : v1.1 0 0 13 = 1 := z1 13
  have c15 : v1.1 0 0 15 = 0 := z1 15
  have c16 : v1.1 0 0 16 = 0 := z1 16
  have c18 : v1.1 0 0 18 = 1 := z1 18
  have c19 : v1.1 0 0 19 = 0 := z1 19
  have Q1 := q0.tr hq1
  clear hz1 z1 q0 hq1
  have hd1 := hd.q Q1
  have set0 : mSet (some dS) v1 := ⟨c18, Or.inl c19, fun S hS => by
    cases hS
    exact ⟨fun k hk => hS1 k (by rcases hk with h | h | h | h | h | h <;> omega), fun _ => rfl⟩⟩
  have c258 : v1.1 2 0 258 = 0 := hS1 8 (by decide)
  refine z_C.go 5 rfl ?_
  have hd2 : mD len D (z_si v1 0 0 14 8) := hd1.q (nF1.si (Or.inr rfl)).q
  refine z_C.ld rfl rfl hd2.2.1 ?_
  refine z_C.go 2 rfl ?_
  have Q2 : ∀ x y, qF v (z_si (z_si v1 0 0 14 x) 0 0 13 y) := fun x y => Q1.tr ((nF1.si (Or.inr rfl)).tr (nF1.si (Or.inl rfl))).q
  by_cases h8 : 8 < len
  · refine z_C.if (fun h => absurd ((iN_le (b := 8) (by omega) (by decide)).mp h) (by omega)) (fun _ => ?_)
    have hD8 := (hd.2.2 8 h8).2
    refine z_C.go 2 rfl ?_
    refine z_C.call rfl rfl (m_num (b := true) (p := 8) (n := 1) (v := z_si v1 0 0 14 8) (Q := fun v' r => r = some (zI (iN (D 8))) ∧ nF1 (z_si v1 0 0 14 8) v' ∧ v'.1 0 0 14 = iN 9) hd2 (by rw [show gI true len 8 = 1 from if_pos ⟨rfl, by omega⟩]; exact c13) rfl (by decide) (by decide) (fun v' x a b c d => ⟨by rw [d ⟨rfl, by omega⟩, numF_1], a, c⟩)) (fun v2 r h => ?_)
    obtain ⟨rfl, f2, a2⟩ := h
    have Q2' : qF v v2 := (Q1.tr (nF1.si (Or.inr rfl)).q).tr f2.q
    have z2 : ∀ k, ¬ k = 13 → ¬ k = 14 → v2.1 0 0 k = v1.1 0 0 k := fun k a b => (f2.2 0 0 k (by omega)).trans (if_neg (fun h => b h.2.2))
    have y2 : ∀ k, v2.1 2 0 k = v1.1 2 0 k := fun k => (f2.2 2 0 k (by omega)).trans rfl
    refine z_C.go 2 rfl ?_
    refine z_C.if (fun h => ?_) (fun h => ?_)
    · have h81 : D 8 = 1 := (iN_inj (b := 1) (by omega) (by decide)).mp h
      obtain ⟨o1, g1, hr2⟩ : ∃ o1, grpR D len 34 9 [] o1 ∧ parR2 D len o1 o := by
        rcases hr with ⟨h, -⟩ | ⟨-, h⟩
        · exact absurd ⟨h8, h81⟩ h
        · exact h
      refine z_C.go 5 rfl ?_
      have Q3 : qF v (z_si v2 0 0 13 1) := Q2'.tr (nF1.si (Or.inl rfl)).q
      have hI : ∀ x, (fun (G : List Nat) (v : z_W) => mJ1 D G v ∧ mSet (some dS) v ∧ v.1 0 0 15 = 0 ∧ v.1 2 0 258 = 0) [] (z_si (z_si v2 0 0 13 1) 0 0 21 x) := fun x => by
        obtain ⟨s1, s2, s3⟩ := set0
        refine ⟨Or.inl ⟨(z2 16 (by decide) (by decide)).trans c16, fun q hq => by cases hq⟩, ⟨(z2 18 (by decide) (by decide)).trans s1, ?_, fun S hS => ?_⟩, (z2 15 (by decide) (by decide)).trans c15, (y2 258).trans c258⟩
        · show v2.1 0 0 19 = 0 ∨ v2.1 0 0 19 = 1
          rw [z2 19 (by decide) (by decide)]
          exact s2
        · obtain ⟨t1, t2⟩ := s3 S hS
          exact ⟨fun k hk => (y2 _).trans (t1 k hk), fun h9 => t2 ((z2 19 (by decide) (by decide)).symm.trans h9)⟩
      by_cases ho1 : ∃ G p, o1 = some (G, p) ∧ p < len ∧ (D p = 2 ∨ D p = 3)
      · obtain ⟨G1, p1, e1, hp1, h23⟩ := ho1
        subst e1
        refine z_C.call rfl rfl (m_grp (p := 9) (v := z_si v2 0 0 13 1) (Q := fun v' r => r = none ∧ qF (z_si v2 0 0 13 1) v' ∧ v'.1 0 0 13 = 1 ∧ v'.1 0 0 14 = iN p1 ∧ (mJ1 D G1 v' ∧ mSet (some dS) v' ∧ v'.1 0 0 15 = 0 ∧ v'.1 2 0 258 = 0)) (attr1 (o := some dS)) hI g1 (hd.q Q3) rfl a2 (by omega) (by decide) (fun G p e _ _ v' a b c d => by
          cases e
          exact ⟨rfl, a, b, c, d⟩) (fun h => absurd ⟨hp1, h23⟩ (h G1 p1 rfl))) (fun v3 r h => ?_)
        obtain ⟨rfl, q3, g3, a3, hJ3, hS3, h153, h2583⟩ := h
        have Q4 := Q3.tr q3
        have hd4 := hd.q Q4
        have hDp1 := (hd.2.2 p1 hp1).2
        refine z_C.go 1 rfl ?_
        refine z_C.ld rfl rfl g3 ?_
        refine z_C.go 1 rfl ?_
        refine z_C.if (fun h => absurd h (by decide)) (fun _ => ?_)
        refine z_C.go 1 rfl ?_
        refine z_C.call rfl rfl (m_peek (Q := fun v' r => v' = v3 ∧ r = some (zI (iN (D p1)))) hd4 a3 (by omega) (fun _ => ⟨rfl, rfl⟩) (fun h => absurd hp1 h)) (fun v' r h => ?_)
        obtain ⟨rfl, rfl⟩ := h
        refine z_C.go 2 rfl ?_
        refine z_C.if (fun h => ?_) (fun h => ?_)
        · have h2 : D p1 = 2 := (iN_inj (b := 2) (by omega) (by decide)).mp h
          obtain ⟨o2, g2, hr3⟩ : ∃ o2, grpR D len 34 (p1 + 1) [] o2 ∧ parR3 D len G1 o2 o := by
            rcases hr2 with ⟨h, -⟩ | ⟨G, p, h, h9⟩
            · cases h
            · cases h
              rcases h9 with ⟨h9, -⟩ | ⟨h9, -⟩ | ⟨-, h9⟩
              · exact absurd ⟨hp1, h23⟩ h9
              · omega
              · exact h9
          refine z_C.go 5 rfl ?_
          refine z_C.ld rfl rfl (show (z_si v' 0 0 15 1).1 0 0 14 = iN p1 from a3) ?_
          refine z_C.go 5 rfl ?_
          have a5 : (z_si (z_si v' 0 0 15 1) 0 0 14 (iN p1 + 1)).1 0 0 14 = iN (p1 + 1) := iN_add p1 1
          have q5 : qF v' (z_si (z_si v' 0 0 15 1) 0 0 14 (iN p1 + 1)) := ⟨rfl, fun g i k a _ _ _ => (if_neg (fun h => a ⟨h.1, by omega, by omega⟩)).trans (if_neg (fun h => a ⟨h.1, by omega, by omega⟩))⟩
          have Q5 := Q4.tr q5
          have hI2 : ∀ x, (fun (G : List Nat) (v : z_W) => mJ1 D G1 v ∧ mSet (setL D G (some dS)) v ∧ v.1 0 0 15 = 1 ∧ v.1 2 0 258 = 0) [] (z_si (z_si (z_si v' 0 0 15 1) 0 0 14 (iN p1 + 1)) 0 0 21 x) := fun x => ⟨hJ3, hS3, rfl, h2583⟩
          by_cases ho2 : ∃ G p, o2 = some (G, p) ∧ p < len ∧ (D p = 2 ∨ D p = 3)
          · obtain ⟨G2, p2, e2, hp2, h232⟩ := ho2
            subst e2
            refine z_C.call rfl rfl (m_grp (p := p1 + 1) (v := z_si (z_si v' 0 0 15 1) 0 0 14 (iN p1 + 1)) (Q := fun v6 r => r = none ∧ qF (z_si (z_si v' 0 0 15 1) 0 0 14 (iN p1 + 1)) v6 ∧ v6.1 0 0 13 = 1 ∧ v6.1 0 0 14 = iN p2 ∧ (mJ1 D G1 v6 ∧ mSet (setL D G2 (some dS)) v6 ∧ v6.1 0 0 15 = 1 ∧ v6.1 2 0 258 = 0)) (attr2 (G1 := G1) (o := some dS)) hI2 g2 (hd.q Q5) g3 a5 (by omega) (by
              have := grpR_ge g1
              omega) (fun G p e _ _ v' a b c d => by
              cases e
              exact ⟨rfl, a, b, c, d⟩) (fun h => absurd ⟨hp2, h232⟩ (h G2 p2 rfl))) (fun v6 r h => ?_)
            obtain ⟨rfl, q6, g6, a6, hJ6, hS6, h156, h2586⟩ := h
            refine last1 v6 p2 (Q5.tr q6) g6 a6 hp2 (fun h3 v7 q7 z7 y7 g7 d7 => K v7 ((Q5.tr q6).tr q7) ?_) (fun h3 => ?_)
            · have ho : o = some (G1, some G2, p2 + 1) := by
                rcases hr3 with ⟨h, -⟩ | ⟨G, p, h, h9⟩
                · cases h
                · cases h
                  rcases h9 with ⟨h9, -⟩ | ⟨-, h9⟩
                  · exact absurd ⟨hp2, h3⟩ h9
                  · exact h9
              refine ⟨by rw [ho]; exact g7, fun G1' g2' d' h9 => ?_⟩
              rw [ho] at h9
              cases h9
              refine ⟨?_, ?_, (z7 15 (by decide) (by decide) (by decide)).trans h156, (y7 258).trans h2586, d7, by omega⟩
              · rcases hJ6 with ⟨j1, j2⟩ | ⟨j1, q, j2, j3, j4⟩
                · exact Or.inl ⟨(z7 16 (by decide) (by decide) (by decide)).trans j1, j2⟩
                · exact Or.inr ⟨(z7 16 (by decide) (by decide) (by decide)).trans j1, q, j2, j3, (z7 17 (by decide) (by decide) (by decide)).trans j4⟩
              · obtain ⟨s1, s2, s3⟩ := hS6
                refine ⟨(z7 18 (by decide) (by decide) (by decide)).trans s1, by rw [z7 19 (by decide) (by decide) (by decide)]; exact s2, fun S hS => ?_⟩
                obtain ⟨t1, t2⟩ := s3 S hS
                exact ⟨fun k hk => (y7 _).trans (t1 k hk), fun h9 => t2 ((z7 19 (by decide) (by decide) (by decide)).symm.trans h9)⟩
            · rcases hr3 with ⟨h, -⟩ | ⟨G, p, h, h9⟩
              · cases h
              · cases h
                rcases h9 with ⟨-, h9⟩ | ⟨h9, -⟩
                · exact h9
                · exact absurd h9.2 h3
          · have ho : o = none := by
              rcases hr3 with ⟨-, h⟩ | ⟨G, p, h, h9⟩
              · exact h
              · rcases h9 with ⟨-, h9⟩ | ⟨h9, -⟩
                · exact h9
                · exact absurd ⟨G, p, h, h9.1, Or.inr h9.2⟩ ho2
            refine z_C.call rfl rfl (m_grp (p := p1 + 1) (v := z_si (z_si v' 0 0 15 1) 0 0 14 (iN p1 + 1)) (Q := fun v6 r => r = none ∧ qF (z_si (z_si v' 0 0 15 1) 0 0 14 (iN p1 + 1)) v6 ∧ v6.1 0 0 13 = 0) (attr2 (G1 := G1) (o := some dS)) hI2 g2 (hd.q Q5) g3 a5 (by omega) (by
              have := grpR_ge g1
              omega) (fun G p e a b => absurd ⟨G, p, e, a, b⟩ ho2) (fun _ v6 a b => ⟨rfl, a, b⟩)) (fun v6 r h => ?_)
            obtain ⟨rfl, q6, g6⟩ := h
            exact last0 v6 (Q5.tr q6) g6 ho
        · have h2 : ¬ D p1 = 2 := fun h9 => h (by rw [h9]; rfl)
          have h3 : D p1 = 3 := by omega
          have ho : o = some (G1, none, p1 + 1) := by
            rcases hr2 with ⟨h, -⟩ | ⟨G, p, h, h9⟩
            · cases h
            · cases h
              rcases h9 with ⟨h9, -⟩ | ⟨-, h9⟩ | ⟨h9, -⟩
              · exact absurd ⟨hp1, h23⟩ h9
              · exact h9
              · omega
          refine last1 v' p1 Q4 g3 a3 hp1 (fun _ v7 q7 z7 y7 g7 d7 => K v7 (Q4.tr q7) ?_) (fun h => absurd h3 h)
          refine ⟨by rw [ho]; exact g7, fun G1' g2' d' h9 => ?_⟩
          rw [ho] at h9
          cases h9
          refine ⟨?_, ?_, (z7 15 (by decide) (by decide) (by decide)).trans h153, (y7 258).trans h2583, d7, by omega⟩
          · rcases hJ3 with ⟨j1, j2⟩ | ⟨j1, q, j2, j3, j4⟩
            · exact Or.inl ⟨(z7 16 (by decide) (by decide) (by decide)).trans j1, j2⟩
            · exact Or.inr ⟨(z7 16 (by decide) (by decide) (by decide)).trans j1, q, j2, j3, (z7 17 (by decide) (by decide) (by decide)).trans j4⟩
          · obtain ⟨s1, s2, s3⟩ := hS3
            refine ⟨(z7 18 (by decide) (by decide) (by decide)).trans s1, by rw [z7 19 (by decide) (by decide) (by decide)]; exact s2, fun S hS => ?_⟩
            obtain ⟨t1, t2⟩ := s3 S hS
            exact ⟨fun k hk => (y7 _).trans (t1 k hk), fun h9 => t2 ((z7 19 (by decide) (by decide) (by decide)).symm.trans h9)⟩
      · have ho : o = none := by
          rcases hr2 with ⟨-, h⟩ | ⟨G, p, h, h9⟩
          · exact h
          · rcases h9 with ⟨-, h9⟩ | ⟨h9, -⟩ | ⟨h9, -⟩
            · exact h9
            · exact absurd ⟨G, p, h, h9.1, Or.inr h9.2⟩ ho1
            · exact absurd ⟨G, p, h, h9.1, Or.inl h9.2⟩ ho1
        refine z_C.call rfl rfl (m_grp (p := 9) (v := z_si v2 0 0 13 1) (Q := fun v' r => r = none ∧ qF (z_si v2 0 0 13 1) v' ∧ v'.1 0 0 13 = 0) (attr1 (o := some dS)) hI g1 (hd.q Q3) rfl a2 (by omega) (by decide) (fun G p e a b => absurd ⟨G, p, e, a, b⟩ ho1) (fun _ v' a b => ⟨rfl, a, b⟩)) (fun v3 r h => ?_)
        obtain ⟨rfl, q3, g3⟩ := h
        refine z_C.go 1 rfl ?_
        refine z_C.ld rfl rfl g3 ?_
        refine z_C.go 1 rfl ?_
        refine z_C.if (fun _ => ?_) (fun h => absurd (by decide) h)
        exact last0 v3 (Q3.tr q3) g3 ho
    · have h81 : ¬ D 8 = 1 := fun h9 => h (by rw [h9]; rfl)
      have ho : o = none := by
        rcases hr with ⟨-, h⟩ | ⟨h, -⟩
        · exact h
        · exact absurd h.2 h81
      refine z_C.go 4 rfl ?_
      refine z_C.call rfl rfl (m_grp0 (v := z_si v2 0 0 13 0) (Q := fun v' r => v' = z_si (z_si v2 0 0 13 0) 0 0 21 0 ∧ r = none) rfl ⟨rfl, rfl⟩) (fun v' r h => ?_)
      obtain ⟨rfl, rfl⟩ := h
      refine z_C.go 1 rfl ?_
      refine z_C.ld rfl rfl (show (z_si (z_si v2 0 0 13 0) 0 0 21 0).1 0 0 13 = 0 from rfl) ?_
      refine z_C.go 1 rfl ?_
      refine z_C.if (fun _ => ?_) (fun h => absurd (by decide) h)
      exact last0 _ ((Q2'.tr (nF1.si (Or.inl rfl)).q).tr (aF.si (Or.inr (Or.inr rfl))).q) rfl ho
  · have ho : o = none := by
      rcases hr with ⟨-, h⟩ | ⟨h, -⟩
      · exact h
      · exact absurd h.1 h8
    refine z_C.if (fun _ => ?_) (fun h => absurd ((iN_le (b := 8) (by omega) (by decide)).mpr (by omega)) h)
    refine z_C.go 4 rfl ?_
    refine z_C.call rfl rfl (m_grp0 (v := z_si (z_si v1 0 0 14 8) 0 0 13 0) (Q := fun v' r => v' = z_si (z_si (z_si v1 0 0 14 8) 0 0 13 0) 0 0 21 0 ∧ r = none) rfl ⟨rfl, rfl⟩) (fun v' r h => ?_)
    obtain ⟨rfl, rfl⟩ := h
    refine z_C.go 1 rfl ?_
    refine z_C.ld rfl rfl (show (z_si (z_si (z_si v1 0 0 14 8) 0 0 13 0) 0 0 21 0).1 0 0 13 = 0 from rfl) ?_
    refine z_C.go 1 rfl ?_
    refine z_C.if (fun _ => ?_) (fun h => absurd (by decide) h)
    exact last0 _ ((Q2 8 0).tr (aF.si (Or.inr (Or.inr rfl))).q) rfl ho
