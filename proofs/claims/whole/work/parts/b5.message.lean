/-! the whole message: the class -/
def parR3 (D : Nat → Nat) (len : Nat) (G1 : List Nat) (o2 : Option (List Nat × Nat)) (o : Option (List Nat × Option (List Nat) × Nat)) : Prop := (o2 = none ∧ o = none) ∨ ∃ G2 p2, o2 = some (G2, p2) ∧ ((¬ (p2 < len ∧ D p2 = 3) ∧ o = none) ∨ ((p2 < len ∧ D p2 = 3) ∧ o = some (G1, some G2, p2 + 1)))
def parR2 (D : Nat → Nat) (len : Nat) (o1 : Option (List Nat × Nat)) (o : Option (List Nat × Option (List Nat) × Nat)) : Prop := (o1 = none ∧ o = none) ∨ ∃ G1 p1, o1 = some (G1, p1) ∧ ((¬ (p1 < len ∧ (D p1 = 2 ∨ D p1 = 3)) ∧ o = none) ∨ ((p1 < len ∧ D p1 = 3) ∧ o = some (G1, none, p1 + 1)) ∨ ((p1 < len ∧ D p1 = 2) ∧ ∃ o2, grpR D len 34 (p1 + 1) [] o2 ∧ parR3 D len G1 o2 o))
def parR (D : Nat → Nat) (len : Nat) (o : Option (List Nat × Option (List Nat) × Nat)) : Prop := (¬ (8 < len ∧ D 8 = 1) ∧ o = none) ∨ ((8 < len ∧ D 8 = 1) ∧ ∃ o1, grpR D len 34 9 [] o1 ∧ parR2 D len o1 o)
theorem parR_ex (D : Nat → Nat) (len : Nat) : ∃ o, parR D len o := by
  by_cases h8 : 8 < len ∧ D 8 = 1
  · obtain ⟨o1, h1⟩ := grpR_ex D len 34 9 []
    cases o1 with
    | none => exact ⟨none, Or.inr ⟨h8, none, h1, Or.inl ⟨rfl, rfl⟩⟩⟩
    | some x =>
      obtain ⟨G1, p1⟩ := x
      by_cases h3 : p1 < len ∧ D p1 = 3
      · exact ⟨_, Or.inr ⟨h8, _, h1, Or.inr ⟨G1, p1, rfl, Or.inr (Or.inl ⟨h3, rfl⟩)⟩⟩⟩
      · by_cases h2 : p1 < len ∧ D p1 = 2
        · obtain ⟨o2, g2⟩ := grpR_ex D len 34 (p1 + 1) []
          cases o2 with
          | none => exact ⟨none, Or.inr ⟨h8, _, h1, Or.inr ⟨G1, p1, rfl, Or.inr (Or.inr ⟨h2, none, g2, Or.inl ⟨rfl, rfl⟩⟩)⟩⟩⟩
          | some y =>
            obtain ⟨G2, p2⟩ := y
            by_cases h4 : p2 < len ∧ D p2 = 3
            · exact ⟨_, Or.inr ⟨h8, _, h1, Or.inr ⟨G1, p1, rfl, Or.inr (Or.inr ⟨h2, _, g2, Or.inr ⟨G2, p2, rfl, Or.inr ⟨h4, rfl⟩⟩⟩)⟩⟩⟩
            · exact ⟨_, Or.inr ⟨h8, _, h1, Or.inr ⟨G1, p1, rfl, Or.inr (Or.inr ⟨h2, _, g2, Or.inr ⟨G2, p2, rfl, Or.inl ⟨h4, rfl⟩⟩⟩)⟩⟩⟩
        · exact ⟨none, Or.inr ⟨h8, _, h1, Or.inr ⟨G1, p1, rfl, Or.inl ⟨fun h => by rcases h.2 with h9 | h9; exact h2 ⟨h.1, h9⟩; exact h3 ⟨h.1, h9⟩, rfl⟩⟩⟩⟩
  · exact ⟨none, Or.inl ⟨h8, rfl⟩⟩
def mG (w w' : z_W) : Prop := w'.2.2 = w.2.2 ∧ ∀ g i k, ¬ (g = 1 ∧ i = 0 ∧ k = 2) → ¬ g = 4 → ¬ g = 3 → w'.1 g i k = w.1 g i k
theorem mG.rf (w : z_W) : mG w w := ⟨rfl, fun _ _ _ _ _ _ => rfl⟩
theorem mG.tr {w w' w'' : z_W} (h1 : mG w w') (h2 : mG w' w'') : mG w w'' := ⟨h2.1.trans h1.1, fun g i k a b c => (h2.2 g i k a b c).trans (h1.2 g i k a b c)⟩
theorem mG.F {w w' : z_W} (h : mF w w') : mG w w' := ⟨h.1, fun g i k a b c => h.2 g i k a b (fun h => c h.1)⟩
theorem mG.cu {w w' : z_W} (h : cuF w w') : mG w w' := mG.F (mF.cu h)
theorem mG.si {w : z_W} {k : Nat} {x : Int32} : mG w (z_si w 3 0 k x) := ⟨rfl, fun g i q _ _ c => if_neg (fun h => c h.1)⟩
theorem cD.mG {len : Nat} {D : Nat → Nat} {w w' : z_W} (h : cD len D w) (hf : mG w w') : cD len D w' :=
  ⟨h.1, (hf.2 1 0 1 (by omega) (by omega) (by omega)).trans h.2.1, fun k hk => ⟨(hf.2 2 0 k (by omega) (by omega) (by omega)).trans (h.2.2 k hk).1, (h.2.2 k hk).2⟩⟩
theorem cA.fr {D : Nat → Nat} {L : List Nat} {w w' : z_W} (h : cA D L w) (h3 : w'.1 3 0 4 = w.1 3 0 4) (h4 : ∀ k, w'.1 4 0 k = w.1 4 0 k) (h5 : w'.2.1 = w.2.1) : cA D L w' :=
  ⟨h3.trans h.1, fun i p hp => by rw [h4, h5]; exact h.2 i p hp⟩
/-- what a message that was read shows: is it well formed, its groups, where its data begin -/
def cMs (D : Nat → Nat) (len : Nat) (o : Option (List Nat × Option (List Nat) × Nat)) (w : z_W) : Prop := ∀ G1 g2 d, o = some (G1, g2, d) → cA D (G1 ++ g2.getD []) w ∧ w.1 3 0 5 = iN G1.length ∧ w.1 3 0 6 = iN (if g2.isSome = true then 1 else 0) ∧ w.1 3 0 10 = iN d ∧ (∀ q ∈ G1 ++ g2.getD [], aGood D len q) ∧ d ≤ len ∧ (G1 ++ g2.getD []).length < 34
theorem e_groups {D : Nat → Nat} {len : Nat} {o : Option (List Nat × Option (List Nat) × Nat)} {w : z_W} {Q : z_W → Option z_V → Prop} (hr : parR D len o) (hd : cD len D w) (hp : w.1 1 0 2 = iN 8) (hl8 : 8 ≤ len) (ha : cA D [] w) (h6 : w.1 3 0 6 = 0)
    (h1 : o.isSome = true → ∀ w', mG w w' → (∀ k, k = 7 ∨ k = 8 ∨ k = 9 → w'.1 3 0 k = w.1 3 0 k) → cMs D len o w' → Q w' (some (zI 1))) (h0 : o = none → ∀ w', mG w w' → (∀ k, k = 7 ∨ k = 8 ∨ k = 9 → w'.1 3 0 k = w.1 3 0 k) → Q w' (some (zI 0))) : cRun kM_readGroups (0, [some (zR 3 0), none], [], w) Q := by
  have hlen := hd.1
  have hb : ∀ q, q < len → D q < 256 := fun q hq => (hd.2.2 q hq).2
  refine z_C.go 2 rfl ?_
  by_cases h8 : 8 < len
  · refine z_C.call rfl rfl (e_next (Q := fun w' r => cuF w w' ∧ w'.1 1 0 2 = iN 9 ∧ r = some (zI (iN (D 8)))) hd hp (by omega) (fun _ w' a b => ⟨a, b, rfl⟩) (fun h => absurd h8 h)) (fun w1 r h => ?_)
    obtain ⟨f1, p1, rfl⟩ := h
    have k1 : ∀ k, w1.1 3 0 k = w.1 3 0 k := fun k => f1.2 3 0 k (by omega)
    have ha1 : cA D [] w1 := ha.fr (k1 4) (fun k => f1.2 4 0 k (by omega)) (by rw [f1.1])
    refine z_C.go 2 rfl ?_
    by_cases c1 : D 8 = 1
    · rw [c1]
      refine z_C.if (fun _ => ?_) (fun h => absurd (by decide) h)
      have hr2 : ∃ o1, grpR D len 34 9 [] o1 ∧ parR2 D len o1 o := by
        rcases hr with ⟨h, -⟩ | ⟨-, h⟩
        · exact absurd ⟨h8, c1⟩ h
        · exact h
      obtain ⟨o1, g1, hr2⟩ := hr2
      refine z_C.go 1 rfl ?_
      cases o1 with
      | none =>
        have ho : o = none := by
          rcases hr2 with ⟨-, h⟩ | ⟨G, p, h, -⟩
          · exact h
          · cases h
        refine z_C.call rfl rfl (e_grp (pre := []) (Q := fun w' r => mF w1 w' ∧ r = some (zI 0)) g1 (hd.cu f1) ha1 p1 (by omega) (fun q hq => by cases hq) (by decide) (fun G p h => by cases h) (fun _ w' a => ⟨a, rfl⟩)) (fun w2 r h => ?_)
        obtain ⟨f2, rfl⟩ := h
        refine z_C.go 1 rfl ?_
        refine z_C.if (fun _ => ?_) (fun h => absurd (by decide) h)
        refine z_C.go 1 rfl ?_
        exact z_C.ret rfl rfl (h0 ho w2 ((mG.cu f1).tr (mG.F f2)) (fun k hk => (f2.2 3 0 k (by omega) (by omega) (by omega)).trans (k1 k)))
      | some x =>
        obtain ⟨G1, q1⟩ := x
        refine z_C.call rfl rfl (e_grp (pre := []) (Q := fun w' r => (mF w1 w' ∧ cA D G1 w' ∧ w'.1 1 0 2 = iN q1 ∧ (∀ q ∈ G1, aGood D len q) ∧ q1 ≤ len ∧ 9 + 7 * G1.length ≤ q1) ∧ r = some (zI 1)) g1 (hd.cu f1) ha1 p1 (by omega) (fun q hq => by cases hq) (by decide) (fun G p h w' a b c d e f => by
          cases h
          exact ⟨⟨a, b, c, d, e, f⟩, rfl⟩) (fun h => by cases h)) (fun w2 r h => ?_)
        obtain ⟨⟨f2, ha2, p2, hg2, hq1, h72⟩, rfl⟩ := h
        have k2 : ∀ k, ¬ k = 4 → w2.1 3 0 k = w.1 3 0 k := fun k hk => (f2.2 3 0 k (by omega) (by omega) (by omega)).trans (k1 k)
        refine z_C.go 1 rfl ?_
        refine z_C.if (fun h => absurd h (by decide)) (fun _ => ?_)
        refine z_C.go 2 rfl ?_
        refine z_C.ld rfl rfl ha2.1 ?_
        refine z_C.go 3 rfl ?_
        have hd3 : cD len D (z_si w2 3 0 5 (iN G1.length)) := (hd.mG ((mG.cu f1).tr (mG.F f2))).mG mG.si
        have hF3 : mG w (z_si w2 3 0 5 (iN G1.length)) := ((mG.cu f1).tr (mG.F f2)).tr mG.si
        have ha3 : cA D G1 (z_si w2 3 0 5 (iN G1.length)) := ha2.fr rfl (fun k => rfl) rfl
        by_cases c2 : q1 < len
        · refine z_C.call rfl rfl (e_next (p := q1) (Q := fun w' r => cuF (z_si w2 3 0 5 (iN G1.length)) w' ∧ w'.1 1 0 2 = iN (q1 + 1) ∧ r = some (zI (iN (D q1)))) hd3 p2 (by omega) (fun _ w' a b => ⟨a, b, rfl⟩) (fun h => absurd c2 h)) (fun w4 r h => ?_)
          obtain ⟨f4, p4, rfl⟩ := h
          have k4 : ∀ k, ¬ k = 4 → ¬ k = 5 → w4.1 3 0 k = w.1 3 0 k := fun k a b => (f4.2 3 0 k (by omega)).trans ((if_neg (fun h => b h.2.2)).trans (k2 k a))
          have k45 : w4.1 3 0 5 = iN G1.length := (f4.2 3 0 5 (by omega)).trans rfl
          have ha4 : cA D G1 w4 := ha3.fr (f4.2 3 0 4 (by omega)) (fun k => f4.2 4 0 k (by omega)) (by rw [f4.1])
          have hF4 := hF3.tr (mG.cu f4)
          have hDq := hb q1 c2
          refine z_C.go 4 rfl ?_
          refine z_C.if (fun h => ?_) (fun h => ?_)
          · have c3 : D q1 = 2 := (iN_inj (b := 2) (by omega) (by decide)).mp h
            have hr3 : ∃ o2, grpR D len 34 (q1 + 1) [] o2 ∧ parR3 D len G1 o2 o := by
              rcases hr2 with ⟨h, -⟩ | ⟨G, p, h, h9⟩
              · cases h
              · cases h
                rcases h9 with ⟨h9, -⟩ | ⟨h9, -⟩ | ⟨-, h9⟩
                · exact absurd ⟨c2, Or.inl c3⟩ h9
                · omega
                · exact h9
            obtain ⟨o2, g2, hr3⟩ := hr3
            refine z_C.go 4 rfl ?_
            have hd5 : cD len D (z_si w4 3 0 6 1) := (hd.mG hF4).mG mG.si
            have hF5 : mG w (z_si w4 3 0 6 1) := hF4.tr mG.si
            have ha5 : cA D G1 (z_si w4 3 0 6 1) := ha4.fr rfl (fun k => rfl) rfl
            cases o2 with
            | none =>
              have ho : o = none := by
                rcases hr3 with ⟨-, h⟩ | ⟨G, p, h, -⟩
                · exact h
                · cases h
              refine z_C.call rfl rfl (e_grp (pre := G1) (p := q1 + 1) (Q := fun w' r => mF (z_si w4 3 0 6 1) w' ∧ r = some (zI 0)) g2 hd5 ha5 p4 (by omega) hg2 (by omega) (fun G p h => by cases h) (fun _ w' a => ⟨a, rfl⟩)) (fun w6 r h => ?_)
              obtain ⟨f6, rfl⟩ := h
              refine z_C.go 1 rfl ?_
              refine z_C.if (fun _ => ?_) (fun h => absurd (by decide) h)
              refine z_C.go 1 rfl ?_
              exact z_C.ret rfl rfl (h0 ho w6 (hF5.tr (mG.F f6)) (fun k hk => (f6.2 3 0 k (by omega) (by omega) (by omega)).trans ((if_neg (fun h => by omega)).trans (k4 k (by omega) (by omega)))))
            | some y =>
              obtain ⟨G2, q2⟩ := y
              refine z_C.call rfl rfl (e_grp (pre := G1) (p := q1 + 1) (Q := fun w' r => (mF (z_si w4 3 0 6 1) w' ∧ cA D (G1 ++ G2) w' ∧ w'.1 1 0 2 = iN q2 ∧ (∀ q ∈ G1 ++ G2, aGood D len q) ∧ q2 ≤ len ∧ 9 + 7 * (G1 ++ G2).length ≤ q2) ∧ r = some (zI 1)) g2 hd5 ha5 p4 (by omega) hg2 (by omega) (fun G p h w' a b c d e f => by
                cases h
                exact ⟨⟨a, b, c, d, e, f⟩, rfl⟩) (fun h => by cases h)) (fun w6 r h => ?_)
              obtain ⟨⟨f6, ha6, p6, hg6, hq2, h76⟩, rfl⟩ := h
              have k6 : ∀ k, k = 7 ∨ k = 8 ∨ k = 9 → w6.1 3 0 k = w.1 3 0 k := fun k hk => (f6.2 3 0 k (by omega) (by omega) (by omega)).trans ((if_neg (fun h => by omega)).trans (k4 k (by omega) (by omega)))
              have k65 : w6.1 3 0 5 = iN G1.length := (f6.2 3 0 5 (by omega) (by omega) (by omega)).trans k45
              have k66 : w6.1 3 0 6 = 1 := (f6.2 3 0 6 (by omega) (by omega) (by omega)).trans rfl
              have hd6 := hd5.mG (mG.F f6)
              have hF6 := hF5.tr (mG.F f6)
              refine z_C.go 1 rfl ?_
              refine z_C.if (fun h => absurd h (by decide)) (fun _ => ?_)
              refine z_C.go 2 rfl ?_
              by_cases c4 : q2 < len
              · refine z_C.call rfl rfl (e_next (p := q2) (Q := fun w' r => cuF w6 w' ∧ w'.1 1 0 2 = iN (q2 + 1) ∧ r = some (zI (iN (D q2)))) hd6 p6 (by omega) (fun _ w' a b => ⟨a, b, rfl⟩) (fun h => absurd c4 h)) (fun w7 r h => ?_)
                obtain ⟨f7, p7, rfl⟩ := h
                have hDq2 := hb q2 c4
                have k7 : ∀ k, w7.1 3 0 k = w6.1 3 0 k := fun k => f7.2 3 0 k (by omega)
                have hF7 := hF6.tr (mG.cu f7)
                have ha7 : cA D (G1 ++ G2) (z_si w7 3 0 10 (iN (q2 + 1))) := (ha6.fr (k7 4) (fun k => f7.2 4 0 k (by omega)) (by rw [f7.1])).fr rfl (fun k => rfl) rfl
                refine z_C.go 4 rfl ?_
                refine z_C.ld rfl rfl p7 ?_
                refine z_C.go 4 rfl ?_
                refine z_C.if (fun h => ?_) (fun h => ?_)
                · have c5 : D q2 = 3 := (iN_inj (b := 3) (by omega) (by decide)).mp h
                  have ho : o = some (G1, some G2, q2 + 1) := by
                    rcases hr3 with ⟨h, -⟩ | ⟨G, p, h, h9⟩
                    · cases h
                    · cases h
                      rcases h9 with ⟨h9, -⟩ | ⟨-, h9⟩
                      · exact absurd ⟨c4, c5⟩ h9
                      · exact h9
                  refine z_C.go 2 rfl ?_
                  refine z_C.ret rfl rfl (h1 (by rw [ho]; rfl) _ (hF7.tr mG.si) (fun k hk => (if_neg (fun h => by omega)).trans ((k7 k).trans (k6 k hk))) ?_)
                  intro G1' g2' d' h9
                  rw [ho] at h9
                  cases h9
                  exact ⟨ha7, (k7 5).trans k65, (k7 6).trans k66, rfl, hg6, by omega, by show (G1 ++ G2).length < 34; omega⟩
                · have c5 : ¬ D q2 = 3 := fun h9 => h (by rw [h9]; rfl)
                  have ho : o = none := by
                    rcases hr3 with ⟨h, -⟩ | ⟨G, p, h, h9⟩
                    · cases h
                    · cases h
                      rcases h9 with ⟨-, h9⟩ | ⟨h9, -⟩
                      · exact h9
                      · exact absurd h9.2 c5
                  refine z_C.go 1 rfl ?_
                  exact z_C.ret rfl rfl (h0 ho _ (hF7.tr mG.si) (fun k hk => (if_neg (fun h => by omega)).trans ((k7 k).trans (k6 k hk))))
              · have ho : o = none := by
                  rcases hr3 with ⟨h, -⟩ | ⟨G, p, h, h9⟩
                  · cases h
                  · cases h
                    rcases h9 with ⟨-, h9⟩ | ⟨h9, -⟩
                    · exact h9
                    · exact absurd h9.1 c4
                refine z_C.call rfl rfl (e_next (p := q2) (Q := fun w' r => w' = w6 ∧ r = some (zI (-1))) hd6 p6 (by omega) (fun h => absurd h c4) (fun _ => ⟨rfl, rfl⟩)) (fun w7 r h => ?_)
                obtain ⟨rfl, rfl⟩ := h
                refine z_C.go 4 rfl ?_
                refine z_C.ld rfl rfl p6 ?_
                refine z_C.go 4 rfl ?_
                refine z_C.if (fun h => absurd h (by decide)) (fun _ => ?_)
                refine z_C.go 1 rfl ?_
                exact z_C.ret rfl rfl (h0 ho _ (hF6.tr mG.si) (fun k hk => (if_neg (fun h => by omega)).trans (k6 k hk)))
          · have c3 : ¬ D q1 = 2 := fun h9 => h (by rw [h9]; rfl)
            refine z_C.go 3 rfl ?_
            refine z_C.ld rfl rfl p4 ?_
            refine z_C.go 4 rfl ?_
            refine z_C.if (fun h => ?_) (fun h => ?_)
            · have c5 : D q1 = 3 := (iN_inj (b := 3) (by omega) (by decide)).mp h
              have ho : o = some (G1, none, q1 + 1) := by
                rcases hr2 with ⟨h, -⟩ | ⟨G, p, h, h9⟩
                · cases h
                · cases h
                  rcases h9 with ⟨h9, -⟩ | ⟨-, h9⟩ | ⟨h9, -⟩
                  · exact absurd ⟨c2, Or.inr c5⟩ h9
                  · exact h9
                  · omega
              have ha7 : cA D G1 (z_si w4 3 0 10 (iN (q1 + 1))) := ha4.fr rfl (fun k => rfl) rfl
              refine z_C.go 2 rfl ?_
              refine z_C.ret rfl rfl (h1 (by rw [ho]; rfl) _ (hF4.tr mG.si) (fun k hk => (if_neg (fun h => by omega)).trans (k4 k (by omega) (by omega))) ?_)
              intro G1' g2' d' h9
              rw [ho] at h9
              cases h9
              refine ⟨by show cA D (G1 ++ []) _; rw [List.append_nil]; exact ha7, k45, (k4 6 (by decide) (by decide)).trans h6, rfl, by show ∀ q ∈ G1 ++ [], _; rw [List.append_nil]; exact hg2, by omega, by show (G1 ++ []).length < 34; rw [List.append_nil]; omega⟩
            · have c5 : ¬ D q1 = 3 := fun h9 => h (by rw [h9]; rfl)
              have ho : o = none := by
                rcases hr2 with ⟨h, -⟩ | ⟨G, p, h, h9⟩
                · cases h
                · cases h
                  rcases h9 with ⟨-, h9⟩ | ⟨h9, -⟩ | ⟨h9, -⟩
                  · exact h9
                  · exact absurd h9.2 c5
                  · exact absurd h9.2 c3
              refine z_C.go 1 rfl ?_
              exact z_C.ret rfl rfl (h0 ho _ (hF4.tr mG.si) (fun k hk => (if_neg (fun h => by omega)).trans (k4 k (by omega) (by omega))))
        · have ho : o = none := by
            rcases hr2 with ⟨h, -⟩ | ⟨G, p, h, h9⟩
            · cases h
            · cases h
              rcases h9 with ⟨-, h9⟩ | ⟨h9, -⟩ | ⟨h9, -⟩
              · exact h9
              · exact absurd h9.1 c2
              · exact absurd h9.1 c2
          refine z_C.call rfl rfl (e_next (p := q1) (Q := fun w' r => w' = z_si w2 3 0 5 (iN G1.length) ∧ r = some (zI (-1))) hd3 p2 (by omega) (fun h => absurd h c2) (fun _ => ⟨rfl, rfl⟩)) (fun w4 r h => ?_)
          obtain ⟨rfl, rfl⟩ := h
          refine z_C.go 4 rfl ?_
          refine z_C.if (fun h => absurd h (by decide)) (fun _ => ?_)
          refine z_C.go 3 rfl ?_
          refine z_C.ld rfl rfl (show (z_si w2 3 0 5 (iN G1.length)).1 1 0 2 = iN q1 from p2) ?_
          refine z_C.go 4 rfl ?_
          refine z_C.if (fun h => absurd h (by decide)) (fun _ => ?_)
          refine z_C.go 1 rfl ?_
          exact z_C.ret rfl rfl (h0 ho _ (hF3.tr mG.si) (fun k hk => (if_neg (fun h => by omega)).trans ((if_neg (fun h => by omega)).trans (k2 k (by omega)))))
    · have hD8 := hb 8 h8
      refine z_C.if (fun h => absurd ((iN_inj (b := 1) (by omega) (by decide)).mp h) c1) (fun _ => ?_)
      refine z_C.go 1 rfl ?_
      refine z_C.ret rfl rfl (h0 ?_ w1 (mG.cu f1) (fun k _ => k1 k))
      rcases hr with ⟨-, h⟩ | ⟨h, -⟩
      · exact h
      · exact absurd h.2 c1
  · refine z_C.call rfl rfl (e_next (Q := fun w' r => w' = w ∧ r = some (zI (-1))) hd hp (by omega) (fun h => absurd h h8) (fun _ => ⟨rfl, rfl⟩)) (fun w1 r h => ?_)
    obtain ⟨rfl, rfl⟩ := h
    refine z_C.go 2 rfl ?_
    refine z_C.if (fun h => absurd h (by decide)) (fun _ => ?_)
    refine z_C.go 1 rfl ?_
    refine z_C.ret rfl rfl (h0 ?_ w1 (mG.rf _) (fun k _ => rfl))
    rcases hr with ⟨-, h⟩ | ⟨h, -⟩
    · exact h
    · exact absurd h.1 h8
/-- the message as it was read -/
theorem e_read {D : Nat → Nat} {len : Nat} {o : Option (List Nat × Option (List Nat) × Nat)} {w : z_W} {Q : z_W → Option z_V → Prop} (hr : parR D len o) (hd : cD len D w)
    (K : ∀ w', mG w w' → w'.1 3 0 7 = iN (if o.isSome = true then 1 else 0) → w'.1 3 0 8 = (if 8 ≤ len then iN (numF D 2 2) else -1) → w'.1 3 0 9 = (if 8 ≤ len then iN (numF D 4 4) else 0) → cMs D len o w' → Q w' none) : cRun kM_read (0, [some (zR 3 0)], [], w) Q := by
  have hlen := hd.1
  refine z_C.go 23 rfl ?_
  have fr : mG w (z_si (z_si (z_si (z_si (z_si (z_si (z_si w 3 0 4 0) 3 0 5 0) 3 0 6 0) 3 0 7 0) 3 0 8 (-1)) 3 0 9 0) 3 0 10 0) := (((((mG.si.tr mG.si).tr mG.si).tr mG.si).tr mG.si).tr mG.si).tr mG.si
  have a0 : cA D [] (z_si (z_si (z_si (z_si (z_si (z_si (z_si w 3 0 4 0) 3 0 5 0) 3 0 6 0) 3 0 7 0) 3 0 8 (-1)) 3 0 9 0) 3 0 10 0) := ⟨rfl, fun i p h => by cases h⟩
  have v6 : (z_si (z_si (z_si (z_si (z_si (z_si (z_si w 3 0 4 0) 3 0 5 0) 3 0 6 0) 3 0 7 0) 3 0 8 (-1)) 3 0 9 0) 3 0 10 0).1 3 0 6 = 0 := rfl
  have v7 : (z_si (z_si (z_si (z_si (z_si (z_si (z_si w 3 0 4 0) 3 0 5 0) 3 0 6 0) 3 0 7 0) 3 0 8 (-1)) 3 0 9 0) 3 0 10 0).1 3 0 7 = 0 := rfl
  have v8 : (z_si (z_si (z_si (z_si (z_si (z_si (z_si w 3 0 4 0) 3 0 5 0) 3 0 6 0) 3 0 7 0) 3 0 8 (-1)) 3 0 9 0) 3 0 10 0).1 3 0 8 = -1 := rfl
  have v9 : (z_si (z_si (z_si (z_si (z_si (z_si (z_si w 3 0 4 0) 3 0 5 0) 3 0 6 0) 3 0 7 0) 3 0 8 (-1)) 3 0 9 0) 3 0 10 0).1 3 0 9 = 0 := rfl
  show cRun kM_read (39, [some (zR 3 0)], [zR 1 0], z_si (z_si (z_si (z_si (z_si (z_si (z_si w 3 0 4 0) 3 0 5 0) 3 0 6 0) 3 0 7 0) 3 0 8 (-1)) 3 0 9 0) 3 0 10 0) Q
  generalize z_si (z_si (z_si (z_si (z_si (z_si (z_si w 3 0 4 0) 3 0 5 0) 3 0 6 0) 3 0 7 0) 3 0 8 (-1)) 3 0 9 0) 3 0 10 0 = w1 at *
  have hd1 := hd.mG fr
  refine z_C.call rfl rfl (e_length (b := 0) (Q := fun w' r => w' = w1 ∧ r = some (zI (iN len))) ⟨rfl, by rw [hd1.2.1]⟩) (fun w' r h => ?_)
  obtain ⟨rfl, rfl⟩ := h
  refine z_C.go 2 rfl ?_
  refine z_C.if (fun h => ?_) (fun h => ?_)
  · have h8 := (iN_lt (b := 8) (by omega) (by decide)).mp h
    have ho : o = none := by
      rcases hr with ⟨-, h⟩ | ⟨h, -⟩
      · exact h
      · omega
    refine z_C.ret rfl rfl (K w' fr (by rw [ho]; exact v7) (by rw [if_neg (by omega)]; exact v8) (by rw [if_neg (by omega)]; exact v9) (fun _ _ _ h => by rw [ho] at h; cases h))
  · have h8 : 8 ≤ len := Nat.le_of_not_lt (fun h9 => h ((iN_lt (b := 8) (by omega) (by decide)).mpr h9))
    rw [if_pos h8, if_pos h8] at K
    refine z_C.go 3 rfl ?_
    refine z_C.call (Q' := fun w2 r => w2 = z_si w' 1 0 2 2 ∧ r = none) rfl rfl ?_ (fun w2 r h => ?_)
    · refine z_C.go 3 rfl ?_
      exact z_C.ret rfl rfl ⟨rfl, rfl⟩
    obtain ⟨rfl, rfl⟩ := h
    have c2 : cuF w' (z_si w' 1 0 2 2) := cuF.si
    refine z_C.go 4 rfl ?_
    refine z_C.call rfl rfl (e_num (p := 2) (k := 2) (Q := fun w3 r => cuF (z_si w' 1 0 2 2) w3 ∧ w3.1 1 0 2 = iN 4 ∧ r = some (zL (iL (numF D 2 2)))) (hd1.cu c2) rfl (by omega) (by decide) (fun _ w3 a b => ⟨a, b, rfl⟩) (fun h => absurd (show 2 + 2 ≤ len by omega) h)) (fun w3 r h => ?_)
    obtain ⟨f3, p3, rfl⟩ := h
    refine z_C.go 1 rfl ?_
    rw [iL_int]
    refine z_C.go 5 rfl ?_
    have c3 := c2.tr f3
    have hd3 : cD len D (z_si w3 3 0 8 (iN (numF D 2 2))) := (hd1.cu c3).mG mG.si
    refine z_C.call rfl rfl (e_num (p := 4) (k := 4) (Q := fun w4 r => cuF (z_si w3 3 0 8 (iN (numF D 2 2))) w4 ∧ w4.1 1 0 2 = iN 8 ∧ r = some (zL (iL (numF D 4 4)))) hd3 p3 (by omega) (by decide) (fun _ w4 a b => ⟨a, b, rfl⟩) (fun h => absurd (show 4 + 4 ≤ len by omega) h)) (fun w4 r h => ?_)
    obtain ⟨f4, p4, rfl⟩ := h
    refine z_C.go 1 rfl ?_
    rw [iL_int]
    refine z_C.go 3 rfl ?_
    have F5 : mG w (z_si w4 3 0 9 (iN (numF D 4 4))) := (((fr.tr (mG.cu c3)).tr mG.si).tr (mG.cu f4)).tr mG.si
    have t4 : ∀ k, ¬ k = 8 → w4.1 3 0 k = w'.1 3 0 k := fun k hk => (f4.2 3 0 k (by omega)).trans ((if_neg (fun h => hk h.2.2)).trans (c3.2 3 0 k (by omega)))
    have t48 : w4.1 3 0 8 = iN (numF D 2 2) := (f4.2 3 0 8 (by omega)).trans rfl
    have A5 : cA D [] (z_si w4 3 0 9 (iN (numF D 4 4))) := ⟨(t4 4 (by decide)).trans a0.1, fun i p h => by cases h⟩
    have S6 : (z_si w4 3 0 9 (iN (numF D 4 4))).1 3 0 6 = 0 := (t4 6 (by decide)).trans v6
    have hd5 := hd.mG F5
    have p5 : (z_si w4 3 0 9 (iN (numF D 4 4))).1 1 0 2 = iN 8 := p4
    by_cases hs : o.isSome = true
    · refine z_C.call rfl rfl (e_groups (Q := fun w6 r => r = some (zI 1) ∧ mG (z_si w4 3 0 9 (iN (numF D 4 4))) w6 ∧ (∀ k, k = 7 ∨ k = 8 ∨ k = 9 → w6.1 3 0 k = (z_si w4 3 0 9 (iN (numF D 4 4))).1 3 0 k) ∧ cMs D len o w6) hr hd5 p5 h8 A5 S6 (fun _ w6 a b c => ⟨rfl, a, b, c⟩) (fun h => by rw [h] at hs; cases hs)) (fun w6 r h => ?_)
      obtain ⟨rfl, f6, b6, m6⟩ := h
      refine z_C.go 1 rfl ?_
      refine z_C.ret rfl rfl (K _ ((F5.tr f6).tr mG.si) (by rw [if_pos hs]; rfl) ((b6 8 (by decide)).trans t48) ((b6 9 (by decide)).trans rfl) ?_)
      intro G1 g2 d h9
      obtain ⟨x1, x2, x3, x4, x5⟩ := m6 G1 g2 d h9
      exact ⟨x1.fr rfl (fun _ => rfl) rfl, x2, x3, x4, x5⟩
    · have ho : o = none := by
        cases o with
        | none => rfl
        | some x => exact absurd rfl hs
      refine z_C.call rfl rfl (e_groups (Q := fun w6 r => r = some (zI 0) ∧ mG (z_si w4 3 0 9 (iN (numF D 4 4))) w6 ∧ (∀ k, k = 7 ∨ k = 8 ∨ k = 9 → w6.1 3 0 k = (z_si w4 3 0 9 (iN (numF D 4 4))).1 3 0 k)) hr hd5 p5 h8 A5 S6 (fun h => absurd h hs) (fun _ w6 a b => ⟨rfl, a, b⟩)) (fun w6 r h => ?_)
      obtain ⟨rfl, f6, b6⟩ := h
      refine z_C.go 1 rfl ?_
      refine z_C.ret rfl rfl (K _ ((F5.tr f6).tr mG.si) (by rw [if_neg hs]; rfl) ((b6 8 (by decide)).trans t48) ((b6 9 (by decide)).trans rfl) (fun _ _ _ h => by rw [ho] at h; cases h))
