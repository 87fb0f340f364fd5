/-! the status of a message: the class -/
def sOK (S : Nat → Nat) : Prop := (1 ≤ S 2 ∧ S 2 ≤ 3) ∧ (1 ≤ S 3 ∧ S 3 ≤ 100) ∧ (S 4 = 1 ∨ S 4 = 2 ∨ S 4 = 4) ∧ S 5 ≤ 2 ∧ S 6 ≤ 1 ∧ S 9 ≤ 1
theorem sOK_d : sOK dS := by unfold sOK dS; decide
theorem setS_ok {D : Nat → Nat} {len q : Nat} {S S' : Nat → Nat} (hg : aGood D len q) (hS : sOK S) (h : setS D q S = some S') : sOK S' := by
  have hx : D q = 34 → aX D q ≤ 1 := fun h34 => by
    have hz : sZ D q = 1 := by rcases hg.2.2.2.2.1 with h | h | h <;> omega
    unfold aX
    rw [hz, numF_1]
    exact hg.2.2.2.2.2.2.1 h34
  obtain ⟨s2, s3, s4, s5, s6, s9⟩ := hS
  unfold setS at h
  have u : ∀ k x j, updS S k x j = if j = k then x else S j := fun _ _ _ => rfl
  by_cases c1 : D q = 33 ∧ aName D q = numL lCop
  · rw [if_pos c1] at h
    by_cases d : 1 ≤ aX D q ∧ aX D q ≤ 3
    · rw [if_pos d] at h
      cases h
      exact ⟨d, s3, s4, s5, s6, s9⟩
    · rw [if_neg d] at h
      cases h
  · rw [if_neg c1] at h
    by_cases c2 : D q = 33 ∧ aName D q = numL lPri
    · rw [if_pos c2] at h
      by_cases d : 1 ≤ aX D q ∧ aX D q ≤ 100
      · rw [if_pos d] at h
        cases h
        exact ⟨s2, d, s4, s5, s6, s9⟩
      · rw [if_neg d] at h
        cases h
    · rw [if_neg c2] at h
      by_cases c3 : D q = 33 ∧ aName D q = numL lUp
      · rw [if_pos c3] at h
        by_cases d : aX D q = 1 ∨ aX D q = 2 ∨ aX D q = 4
        · rw [if_pos d] at h
          cases h
          exact ⟨s2, s3, d, s5, s6, s9⟩
        · rw [if_neg d] at h
          cases h
      · rw [if_neg c3] at h
        by_cases c4 : D q = 68 ∧ aName D q = numL lSid
        · rw [if_pos c4] at h
          by_cases d1 : aX D q = numL lOne
          · rw [if_pos d1] at h
            cases h
            exact ⟨s2, s3, s4, Nat.zero_le _, s6, s9⟩
          · rw [if_neg d1] at h
            by_cases d2 : aX D q = numL lLon
            · rw [if_pos d2] at h
              cases h
              exact ⟨s2, s3, s4, (by decide : (1 : Nat) ≤ 2), s6, s9⟩
            · rw [if_neg d2] at h
              by_cases d3 : aX D q = numL lSho
              · rw [if_pos d3] at h
                cases h
                exact ⟨s2, s3, s4, Nat.le_refl 2, s6, s9⟩
              · rw [if_neg d3] at h
                cases h
        · rw [if_neg c4] at h
          by_cases c5 : D q = 34 ∧ aName D q = numL lBoo
          · rw [if_pos c5] at h
            cases h
            exact ⟨s2, s3, s4, s5, hx c5.1, s9⟩
          · rw [if_neg c5] at h
            by_cases c6 : D q = 34 ∧ aName D q = numL lHol
            · rw [if_pos c6] at h
              cases h
              exact ⟨s2, s3, s4, s5, s6, hx c6.1⟩
            · rw [if_neg c6] at h
              cases h
theorem setL_ok {D : Nat → Nat} {len : Nat} : ∀ (G : List Nat) (S S' : Nat → Nat), (∀ q ∈ G, aGood D len q) → sOK S → setL D G (some S) = some S' → sOK S' := by
  intro G
  induction G with
  | nil =>
    intro S S' _ hS h
    have h : some S = some S' := h
    cases h
    exact hS
  | cons q G ih =>
    intro S S' hg hS h
    have h : setL D G (setS D q S) = some S' := h
    cases hs : setS D q S with
    | none =>
      rw [hs, setL_none] at h
      cases h
    | some S1 =>
      rw [hs] at h
      exact ih S1 S' (fun q hq => hg q (List.mem_cons_of_mem _ hq)) (setS_ok (hg q List.mem_cons_self) hS hs) h
/-- no name is there twice -/
def nDup (D : Nat → Nat) (G : List Nat) : Prop := ∀ a b, a ∈ G → b ∈ G → aName D a = aName D b → a = b
theorem grpR_nd {D : Nat → Nat} {len : Nat} : ∀ (f p : Nat) (G G' : List Nat) (p' : Nat), nDup D G → grpR D len f p G (some (G', p')) → nDup D G' := by
  intro f
  induction f with
  | zero =>
    intro p G G' p' h hr
    cases hr
    exact h
  | succ f ih =>
    intro p G G' p' h hr
    rcases hr with ⟨-, ⟨-, hd⟩, hr⟩ | ⟨-, -, hr⟩ | ⟨-, hr⟩
    · refine ih _ _ _ _ (fun a b ha hb e => ?_) hr
      rcases List.mem_append.mp ha with ha | ha
      · rcases List.mem_append.mp hb with hb | hb
        · exact h a b ha hb e
        · rw [List.mem_singleton.mp hb] at e
          exact absurd ⟨a, ha, e⟩ hd
      · rw [List.mem_singleton.mp ha] at e ⊢
        rcases List.mem_append.mp hb with hb | hb
        · exact absurd ⟨b, hb, e.symm⟩ hd
        · exact (List.mem_singleton.mp hb).symm
    · cases hr
    · cases hr
      exact h
theorem parR_some {D : Nat → Nat} {len : Nat} {G1 : List Nat} {g2 : Option (List Nat)} {d : Nat} (h : parR D len (some (G1, g2, d))) : 8 < len ∧ nDup D G1 := by
  rcases h with ⟨-, h⟩ | ⟨h8, o1, g1, h⟩
  · cases h
  · refine ⟨h8.1, ?_⟩
    rcases h with ⟨-, h⟩ | ⟨G, p1, e, h⟩
    · cases h
    · subst e
      have hG := grpR_nd _ _ _ _ _ (fun a b ha => by cases ha) g1
      rcases h with ⟨-, h⟩ | ⟨-, h⟩ | ⟨-, o2, -, h⟩
      · cases h
      · cases h
        exact hG
      · rcases h with ⟨-, h⟩ | ⟨G2, p2, -, h⟩
        · cases h
        · rcases h with ⟨-, h⟩ | ⟨-, h⟩
          · cases h
          · cases h
            exact hG
section SC
variable {len : Nat} {D : Nat → Nat} {w : z_W} {Q : z_W → Option z_V → Prop}
theorem at_D {k : Nat} (hd : cD len D w) (hk : k < len) : atR (w.1 2 0) (w.1 1 0 1) (iN k) = iN (D k) := by
  have hlen := hd.1
  unfold atR
  rw [hd.2.1, if_pos ⟨(iN_le (a := 0) (by decide) (by omega)).mpr (by omega), (iN_lt (by omega) (by omega)).mpr hk⟩, iN_nat (by omega)]
  exact (hd.2.2 k hk).1
theorem len_hl (hd : cD len D w) : (w.1 1 0 1).toInt ≤ (sCl 2 0 : Int) := by
  have hlen := hd.1
  rw [hd.2.1, iN_toInt (by omega)]
  show (len : Int) ≤ ((240 : Nat) : Int)
  omega
abbrev oVer (D : Nat → Nat) (len : Nat) : Prop := 2 ≤ len ∧ ¬ (D 0 = 1 ∧ D 1 = 1)
theorem e_ver (hd : cD len D w) (h1 : oVer D len → Q w (some (zI 1))) (h0 : ¬ oVer D len → Q w (some (zI 0))) : cRun kM_isOfOtherVersion (0, [some (zR 3 0)], [], w) Q := by
  have hlen := hd.1
  refine z_C.go 2 rfl ?_
  refine z_C.call rfl rfl (e_length (b := 0) (Q := fun w' r => w' = w ∧ r = some (zI (iN len))) ⟨rfl, by rw [hd.2.1]⟩) (fun w' r h => ?_)
  obtain ⟨rfl, rfl⟩ := h
  refine z_C.go 2 rfl ?_
  refine z_C.if (fun h => ?_) (fun h => ?_)
  · have h := (iN_lt (b := 2) (by omega) (by decide)).mp h
    refine z_C.go 1 rfl ?_
    exact z_C.ret rfl rfl (h0 (fun h9 => by have := h9.1; omega))
  · have h2 : 2 ≤ len := Nat.le_of_not_lt (fun h9 => h ((iN_lt (b := 2) (by omega) (by decide)).mpr h9))
    have b0 := (hd.2.2 0 (by omega)).2
    have b1 := (hd.2.2 1 (by omega)).2
    refine z_C.go 3 rfl ?_
    refine z_C.call rfl rfl (e_at (b := 0) (k := iN 0) (Q := fun w2 r => w2 = w' ∧ r = some (zI (iN (D 0)))) (len_hl hd) ⟨rfl, by rw [at_D hd (by omega)]⟩) (fun w2 r h => ?_)
    obtain ⟨rfl, rfl⟩ := h
    refine z_C.go 2 rfl ?_
    refine z_C.if (fun h => ?_) (fun h => ?_)
    · have e0 : D 0 = 1 := (iN_inj (b := 1) (by omega) (by decide)).mp h
      refine z_C.go 3 rfl ?_
      refine z_C.call rfl rfl (e_at (b := 0) (k := iN 1) (Q := fun w3 r => w3 = w2 ∧ r = some (zI (iN (D 1)))) (len_hl hd) ⟨rfl, by rw [at_D hd (by omega)]⟩) (fun w3 r h => ?_)
      obtain ⟨rfl, rfl⟩ := h
      refine z_C.go 2 rfl ?_
      refine z_C.if (fun h => ?_) (fun h => ?_)
      · have e1 : D 1 = 1 := (iN_inj (b := 1) (by omega) (by decide)).mp h
        refine z_C.go 1 rfl ?_
        exact z_C.ret rfl rfl (h0 (fun h9 => h9.2 ⟨e0, e1⟩))
      · have e1 : ¬ D 1 = 1 := fun h9 => h (by rw [h9]; rfl)
        refine z_C.go 2 rfl ?_
        exact z_C.ret rfl rfl (h1 ⟨h2, fun h9 => e1 h9.2⟩)
    · have e0 : ¬ D 0 = 1 := fun h9 => h (by rw [h9]; rfl)
      refine z_C.go 2 rfl ?_
      exact z_C.ret rfl rfl (h1 ⟨h2, fun h9 => e0 h9.1⟩)
theorem k_jobA {G L : List Nat} (ha : cA D (G ++ L) w) (h5 : w.1 3 0 5 = iN G.length) (hG : G.length < 34) (hg : ∀ q ∈ G, aGood D len q) (hD : ∀ q ∈ G, D q < 256) (h1 : ∀ i q, i < G.length → G[i]? = some q → jA D q → Q w (some (zI (iN i)))) (h0 : (∀ q ∈ G, ¬ jA D q) → Q w (some (zI (-1)))) :
    ∀ (d i : Nat), i + d = G.length → (∀ j q, j < i → G[j]? = some q → ¬ jA D q) → z_C sC zM zCr kM_jobAttribute (2, [some (zR 3 0), some (zI (iN i))], [], w) Q := by
  intro d
  induction d with
  | zero =>
    intro i hi hn
    refine z_C.go 2 rfl ?_
    refine z_C.ld rfl rfl h5 ?_
    refine z_C.go 1 rfl ?_
    refine z_C.if (fun _ => ?_) (fun h => absurd ((iN_le (by omega) (by omega)).mpr (by omega)) h)
    refine z_C.go 1 rfl ?_
    refine z_C.ret rfl rfl (h0 (fun q hq => ?_))
    obtain ⟨j, hj, e⟩ := List.getElem_of_mem hq
    exact hn j q (by omega) (by rw [List.getElem?_eq_getElem hj, e])
  | succ d ih =>
    intro i hi hn
    have hiL : i < G.length := by omega
    have eL : G[i]? = some (G[i]'hiL) := List.getElem?_eq_getElem hiL
    have hgi := hg _ (List.getElem_mem hiL)
    have hDi := hD _ (List.getElem_mem hiL)
    generalize G[i]'hiL = q at eL hgi hDi
    obtain ⟨a1, a2, a3⟩ := ha.2 i q (by rw [List.getElem?_append_left hiL]; exact eL)
    have i1 : z_in (iN i) 34 = true := iN_in (by omega) (by omega)
    have nn : (iN i).toNatClampNeg = i := iN_nat (by omega)
    have eJ := nm_eq (l := lJob) (lit := 6975330) hgi (by decide +kernel) (by decide +kernel)
    have nxt : ¬ jA D q → z_C sC zM zCr kM_jobAttribute (2, [some (zR 3 0), some (zI (iN i + 1))], [], w) Q := fun hj => by
      have k9 := ih (i + 1) (by omega) (fun j x hj2 hx => by
        by_cases e : j = i
        · subst e
          rw [eL] at hx
          cases hx
          exact hj
        · exact hn j x (by omega) hx)
      rw [← iN_add i 1] at k9
      exact k9
    refine z_C.go 2 rfl ?_
    refine z_C.ld rfl rfl h5 ?_
    refine z_C.go 1 rfl ?_
    refine z_C.if (fun h => absurd ((iN_le (by omega) (by omega)).mp h) (by omega)) (fun _ => ?_)
    refine z_C.go 3 rfl ?_
    have b2 : w.2.1 5 0 (iN i).toNatClampNeg = iL (aName D q) := by rw [nn]; exact a2
    have b1 : w.1 4 0 (iN i).toNatClampNeg = iN (D q) := by rw [nn]; exact a1
    refine z_C.ldL rfl (if_pos ⟨rfl, i1⟩) b2 ?_
    refine z_C.go 3 rfl ?_
    refine z_C.if (fun h => ?_) (fun h => ?_)
    · have hnm := eJ.mp h
      refine z_C.go 3 rfl ?_
      refine z_C.ld rfl (if_pos ⟨rfl, i1⟩) b1 ?_
      refine z_C.go 2 rfl ?_
      refine z_C.if (fun h => ?_) (fun h => ?_)
      · have h33 : D q = 33 := (iN_inj (b := 33) (by omega) (by decide)).mp h
        refine z_C.go 1 rfl ?_
        exact z_C.ret rfl rfl (h1 i q hiL eL ⟨h33, hnm⟩)
      · refine z_C.go 2 rfl ?_
        exact nxt (fun h9 => h (by rw [h9.1]; rfl))
    · refine z_C.go 2 rfl ?_
      exact nxt (fun h9 => h (eJ.mpr h9.2))
/-- what the class holds of a message with a number of a job -/
def cNam (D : Nat → Nat) (len : Nat) (G L : List Nat) (w : z_W) : Prop := cA D (G ++ L) w ∧ w.1 3 0 5 = iN G.length ∧ G.length < 34 ∧ (∀ q ∈ G, aGood D len q) ∧ nDup D G ∧ ∀ q ∈ G, D q < 256
theorem k_names {G L : List Nat} (hc : cNam D len G L w) (h1 : (∃ q ∈ G, jA D q) → Q w (some (zI 1))) (h0 : (∀ q ∈ G, ¬ jA D q) → Q w (some (zI 0))) : z_C sC zM zCr kM_namesJob (0, [some (zR 3 0)], [], w) Q := by
  refine z_C.go 1 rfl ?_
  refine z_C.call (Q' := fun w' r => w' = w ∧ ((∃ i, i < 34 ∧ r = some (zI (iN i)) ∧ ∃ q ∈ G, jA D q) ∨ (r = some (zI (-1)) ∧ ∀ q ∈ G, ¬ jA D q))) rfl rfl ?_ (fun w' r h => ?_)
  · refine z_C.go 2 rfl ?_
    exact k_jobA hc.1 hc.2.1 hc.2.2.1 hc.2.2.2.1 hc.2.2.2.2.2 (fun i q hi hq hj => ⟨rfl, Or.inl ⟨i, by have := hc.2.2.1; omega, rfl, q, List.mem_of_getElem? hq, hj⟩⟩) (fun h => ⟨rfl, Or.inr ⟨rfl, h⟩⟩) G.length 0 (by omega) (fun j q h => by omega)
  · obtain ⟨rfl, ⟨i, hi, rfl, hq⟩ | ⟨rfl, hq⟩⟩ := h
    · have ne : ¬ iN i = -1 := fun h => absurd h (show ¬ iN i = -1 from fun h => by
        have h9 := idx_ng (show i < 2147483648 by omega)
        rw [h] at h9
        exact h9 (by decide))
      refine z_C.go 2 rfl ?_
      refine z_C.if (fun h => absurd h ne) (fun _ => ?_)
      refine z_C.go 2 rfl ?_
      exact z_C.ret rfl rfl (h1 hq)
    · refine z_C.go 2 rfl ?_
      refine z_C.if (fun _ => ?_) (fun h => absurd rfl h)
      refine z_C.go 1 rfl ?_
      exact z_C.ret rfl rfl (h0 hq)
theorem k_jobNo {G L : List Nat} {q : Nat} (hc : cNam D len G L w) (hq : q ∈ G) (hj : jA D q) (h1 : Q w (some (zI (iN (aX D q))))) : z_C sC zM zCr kM_jobNumber (0, [some (zR 3 0), none], [], w) Q := by
  refine z_C.go 1 rfl ?_
  refine z_C.call (Q' := fun w' r => w' = w ∧ ∃ i, i < G.length ∧ r = some (zI (iN i)) ∧ G[i]? = some q) rfl rfl ?_ (fun w' r h => ?_)
  · refine z_C.go 2 rfl ?_
    refine k_jobA hc.1 hc.2.1 hc.2.2.1 hc.2.2.2.1 hc.2.2.2.2.2 (fun i q' hi hq' hj' => ⟨rfl, i, hi, rfl, ?_⟩) (fun h => absurd hj (h q hq)) G.length 0 (by omega) (fun j q h => by omega)
    rw [hq', hc.2.2.2.2.1 q' q (List.mem_of_getElem? hq') hq (hj'.2.trans hj.2.symm)]
  · obtain ⟨rfl, i, hi, rfl, hiq⟩ := h
    have hG := hc.2.2.1
    obtain ⟨a1, a2, a3⟩ := hc.1.2 i q (by rw [List.getElem?_append_left hi]; exact hiq)
    have i1 : z_in (iN i) 34 = true := iN_in (by omega) (by omega)
    have nn : (iN i).toNatClampNeg = i := iN_nat (by omega)
    have ne : ¬ iN i = -1 := fun h => by
      have h9 := idx_ng (show i < 2147483648 by omega)
      rw [h] at h9
      exact h9 (by decide)
    have ev : aVal D q = (iN (aX D q)).toInt64 := by
      unfold aVal aX
      rw [if_neg (by have := hj.1; omega)]
    refine z_C.go 4 rfl ?_
    refine z_C.if (fun h => absurd h ne) (fun _ => ?_)
    refine z_C.go 3 rfl ?_
    have b3 : w'.2.1 6 0 (iN i).toNatClampNeg = (iN (aX D q)).toInt64 := by rw [nn]; exact a3.trans ev
    refine z_C.ldL rfl (if_pos ⟨rfl, i1⟩) b3 ?_
    rw [← in32 (iN (aX D q))] at h1
    refine z_C.go 1 rfl ?_
    exact z_C.ret rfl rfl h1
theorem e_bare {b : Bool} {d : Nat} (hd : cD len D w) (h6 : w.1 3 0 6 = iN (if b = true then 1 else 0)) (h10 : w.1 3 0 10 = iN d) (hdl : d ≤ len) (h1 : b = false → len ≤ d → Q w (some (zI 1))) (h0 : b = true ∨ d < len → Q w (some (zI 0))) : cRun kM_isBare (0, [some (zR 3 0)], [], w) Q := by
  have hlen := hd.1
  refine z_C.go 1 rfl ?_
  refine z_C.ld rfl rfl h6 ?_
  refine z_C.go 1 rfl ?_
  cases b with
  | true =>
    refine z_C.if (fun h => absurd h (by decide)) (fun _ => ?_)
    refine z_C.go 1 rfl ?_
    exact z_C.ret rfl rfl (h0 (Or.inl rfl))
  | false =>
    refine z_C.if (fun _ => ?_) (fun h => absurd (by decide) h)
    refine z_C.go 1 rfl ?_
    refine z_C.ld rfl rfl h10 ?_
    refine z_C.go 2 rfl ?_
    refine z_C.call rfl rfl (e_length (b := 0) (Q := fun w' r => w' = w ∧ r = some (zI (iN len))) ⟨rfl, by rw [hd.2.1]⟩) (fun w' r h => ?_)
    obtain ⟨rfl, rfl⟩ := h
    refine z_C.go 1 rfl ?_
    refine z_C.if (fun h => ?_) (fun h => ?_)
    · have h := (iN_lt (by omega) (by omega)).mp h
      refine z_C.go 1 rfl ?_
      exact z_C.ret rfl rfl (h0 (Or.inr h))
    · have h : len ≤ d := Nat.le_of_not_lt (fun h9 => h ((iN_lt (by omega) (by omega)).mpr h9))
      refine z_C.go 2 rfl ?_
      exact z_C.ret rfl rfl (h1 rfl h)
end SC
