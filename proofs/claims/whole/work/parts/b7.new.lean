/-! is a name new in its group? -/
def mN (G : List Nat) (v : z_W) : Prop := v.1 0 0 21 = iN G.length ∧ ∀ i q, G[i]? = some q → v.1 4 0 i = iN (q + 3)
def nOK (D : Nat → Nat) (len p : Nat) : Prop := (1 ≤ sN D p ∧ sN D p ≤ 8) ∧ p + 3 + sN D p ≤ len ∧ Lt D (p + 3) (sN D p)
theorem aGood.n {D : Nat → Nat} {len p : Nat} (h : aGood D len p) : nOK D len p := ⟨h.2.1, h.2.2.1⟩
def eqA (D : Nat → Nat) (q p : Nat) : Prop := sN D q = sN D p ∧ ∀ j, j < sN D p → D (q + 3 + j) = D (p + 3 + j)
theorem eqA_iff {D : Nat → Nat} {len q p : Nat} (hq : nOK D len q) (hp : nOK D len p) : eqA D q p ↔ aName D q = aName D p := by
  constructor
  · intro h
    unfold aName
    rw [h.1]
    exact numF_cg _ h.2
  · intro h
    obtain ⟨a1, a2⟩ := numF_inj _ _ (Lt_1 hq.2.2) (Lt_1 hp.2.2) h
    exact ⟨a1, fun j hj => a2 j (by omega)⟩
def bI (b : Bool) : Int32 := if b = true then 1 else 0
section NEW
variable {len p : Nat} {D : Nat → Nat} {G : List Nat} {v : z_W} {Q : z_W → Option z_V → Prop}
theorem m_new60 {q k : Nat} {f : Int32} (hd : mD len D v) (hp : nOK D len p) (hq : nOK D len q)
    (K : ∀ (s : Bool) x, (s = true ↔ eqA D q p) → mRun kX_isNew (106, [some (zR 0 0), some (zI (iN (p + 3))), some (zI (iN (sN D p))), some (zI f), some (zI (iN k)), some (zI (iN (q + 3))), some (zI (bI s)), some (zI x)], [], v) Q) :
    (∀ (d i : Nat), i + d = sN D p → sN D q = sN D p → (∀ j, j < i → D (q + 3 + j) = D (p + 3 + j)) → mRun kX_isNew (60, [some (zR 0 0), some (zI (iN (p + 3))), some (zI (iN (sN D p))), some (zI f), some (zI (iN k)), some (zI (iN (q + 3))), some (zI 1), some (zI (iN i))], [], v) Q) ∧
    (¬ eqA D q p → ∀ i : Int32, mRun kX_isNew (60, [some (zR 0 0), some (zI (iN (p + 3))), some (zI (iN (sN D p))), some (zI f), some (zI (iN k)), some (zI (iN (q + 3))), some (zI 0), some (zI i)], [], v) Q) := by
  have hlen := hd.1
  obtain ⟨hp1, hp2, hp3⟩ := hp
  obtain ⟨hq1, hq2, hq3⟩ := hq
  have no : ¬ eqA D q p → ∀ i : Int32, mRun kX_isNew (60, [some (zR 0 0), some (zI (iN (p + 3))), some (zI (iN (sN D p))), some (zI f), some (zI (iN k)), some (zI (iN (q + 3))), some (zI 0), some (zI i)], [], v) Q := fun hne i => by
    refine z_C.go 3 rfl ?_
    refine z_C.if (fun _ => ?_) (fun _ => ?_)
    · exact K false i ⟨(fun h => by cases h), fun h => absurd h hne⟩
    · refine z_C.go 2 rfl ?_
      refine z_C.if (fun _ => ?_) (fun h => absurd (by decide) h)
      exact K false i ⟨(fun h => by cases h), fun h => absurd h hne⟩
  refine ⟨?_, no⟩
  intro d
  induction d with
  | zero =>
    intro i hi hs hj
    refine z_C.go 3 rfl ?_
    refine z_C.if (fun _ => ?_) (fun h => absurd ((iN_le (by omega) (by omega)).mpr (by omega)) h)
    exact K true (iN i) ⟨fun _ => ⟨hs, fun j hj9 => hj j (by omega)⟩, fun _ => rfl⟩
  | succ d ih =>
    intro i hi hs hj
    have hD1 := hd.2.2 (q + 3 + i) (by omega)
    have hD2 := hd.2.2 (p + 3 + i) (by omega)
    have e1 : iN (q + 3) + iN i = iN (q + 3 + i) := iN_add (q + 3) i
    have e2 : iN (p + 3) + iN i = iN (p + 3 + i) := iN_add (p + 3) i
    have i1 : z_in (iN (q + 3) + iN i) 240 = true := by rw [e1]; exact iN_in (by omega) (by omega)
    have i2 : z_in (iN (p + 3) + iN i) 240 = true := by rw [e2]; exact iN_in (by omega) (by omega)
    have n1 : v.1 1 0 (iN (q + 3) + iN i).toNatClampNeg = iN (D (q + 3 + i)) := by rw [e1, iN_nat (by omega)]; exact hD1.1
    have n2 : v.1 1 0 (iN (p + 3) + iN i).toNatClampNeg = iN (D (p + 3 + i)) := by rw [e2, iN_nat (by omega)]; exact hD2.1
    refine z_C.go 3 rfl ?_
    refine z_C.if (fun h => absurd ((iN_le (by omega) (by omega)).mp h) (by omega)) (fun _ => ?_)
    refine z_C.go 2 rfl ?_
    refine z_C.if (fun h => absurd h (by decide)) (fun _ => ?_)
    refine z_C.go 5 rfl ?_
    refine z_C.ld rfl (if_pos ⟨rfl, i1⟩) n1 ?_
    refine z_C.go 5 rfl ?_
    refine z_C.ld rfl (if_pos ⟨rfl, i2⟩) n2 ?_
    refine z_C.go 1 rfl ?_
    refine z_C.if (fun h => ?_) (fun h => ?_)
    · have h : D (q + 3 + i) = D (p + 3 + i) := (iN_inj (by omega) (by omega)).mp h
      refine z_C.go 5 rfl ?_
      have k9 := ih (i + 1) (by omega) hs (fun j hj9 => by
        by_cases e : j = i
        · rw [e]
          exact h
        · exact hj j (by omega))
      rw [← iN_add i 1] at k9
      exact k9
    · have h : ¬ D (q + 3 + i) = D (p + 3 + i) := fun h9 => h ((iN_inj (by omega) (by omega)).mpr h9)
      refine z_C.go 4 rfl ?_
      exact no (fun h9 => h (h9.2 i (by omega))) _
theorem m_new5 (hd : mD len D v) (hG : mN G v) (hG60 : G.length < 60) (hg : ∀ q ∈ G, nOK D len q) (hp : nOK D len p)
    (h1 : ¬ dup D G p → Q (z_si (z_si v 4 0 G.length (iN (p + 3))) 0 0 21 (iN (G.length + 1))) (some (zI 1))) (h0 : dup D G p → Q (z_si (z_si v 4 0 G.length (iN (p + 3))) 0 0 21 (iN (G.length + 1))) (some (zI 0))) :
    ∀ (d k : Nat) (b : Bool) (x y z : Option z_V), k + d = G.length → (b = true ↔ ∀ j q, j < k → G[j]? = some q → ¬ aName D q = aName D p) → mRun kX_isNew (5, [some (zR 0 0), some (zI (iN (p + 3))), some (zI (iN (sN D p))), some (zI (bI b)), some (zI (iN k)), x, y, z], [], v) Q := by
  have hlen := hd.1
  have hsp := hp.1
  intro d
  induction d with
  | zero =>
    intro k b x y z hk hb
    have ek : k = G.length := by omega
    subst ek
    have i1 : z_in (iN G.length) 60 = true := iN_in (by omega) (by omega)
    have hb2 : b = true ↔ ¬ dup D G p := by
      rw [hb]
      constructor
      · intro h h9
        obtain ⟨q, q1, q2⟩ := h9
        obtain ⟨j, hj, e⟩ := List.mem_iff_getElem.mp q1
        exact h j q hj (by rw [List.getElem?_eq_getElem hj, e]) q2
      · intro h j q hj hq h9
        rw [List.getElem?_eq_getElem hj] at hq
        cases hq
        exact h ⟨_, List.getElem_mem hj, h9⟩
    refine z_C.go 2 rfl ?_
    refine z_C.ld rfl rfl hG.1 ?_
    refine z_C.go 1 rfl ?_
    refine z_C.if (fun _ => ?_) (fun h => absurd ((iN_le (by omega) (by omega)).mpr (Nat.le_refl _)) h)
    refine z_C.go 3 rfl ?_
    refine z_C.ld rfl rfl hG.1 ?_
    refine z_C.go 1 rfl ?_
    refine z_C.go1 rfl (if_pos ⟨rfl, i1⟩) ?_
    have e1 : z_si v 4 0 (iN G.length).toNatClampNeg (iN (p + 3)) = z_si v 4 0 G.length (iN (p + 3)) := by rw [iN_nat (by omega)]
    show mRun kX_isNew (137, [some (zR 0 0), some (zI (iN (p + 3))), some (zI (iN (sN D p))), some (zI (bI b)), some (zI (iN G.length)), x, y, z], [], z_si v 4 0 (iN G.length).toNatClampNeg (iN (p + 3))) Q
    rw [e1]
    refine z_C.go 2 rfl ?_
    refine z_C.ld rfl rfl (show (z_si v 4 0 G.length (iN (p + 3))).1 0 0 21 = iN G.length from hG.1) ?_
    refine z_C.go 4 rfl ?_
    have e2 : iN G.length + 1 = iN (G.length + 1) := iN_add _ 1
    rw [← e2] at h1 h0
    cases b with
    | true => exact z_C.ret rfl rfl (h1 (hb2.mp rfl))
    | false => exact z_C.ret rfl rfl (h0 (Classical.byContradiction (fun h => by have := hb2.mpr h; cases this)))
  | succ d ih =>
    intro k b x y z hk hb
    have hkG : k < G.length := by omega
    have hgk : G[k]? = some (G[k]'hkG) := List.getElem?_eq_getElem hkG
    generalize hq : G[k]'hkG = q at hgk
    have hqn : nOK D len q := hg q (by rw [← hq]; exact List.getElem_mem hkG)
    have hqn' := hqn
    obtain ⟨hq1, hq2, -⟩ := hqn'
    have i1 : z_in (iN k) 60 = true := iN_in (by omega) (by omega)
    have n1 : v.1 4 0 (iN k).toNatClampNeg = iN (q + 3) := by rw [iN_nat (by omega)]; exact hG.2 k q hgk
    have ea : iN (q + 3) - 2 = iN (q + 1) := iN_sub (b := 2) (by omega)
    have eb : iN (q + 3) - 1 = iN (q + 2) := iN_sub (b := 1) (by omega)
    have i2 : z_in (iN (q + 3) - 2) 240 = true := by rw [ea]; exact iN_in (by omega) (by omega)
    have i3 : z_in (iN (q + 3) - 1) 240 = true := by rw [eb]; exact iN_in (by omega) (by omega)
    have d1 := hd.2.2 (q + 1) (by omega)
    have d2 := hd.2.2 (q + 2) (by omega)
    have n2 : v.1 1 0 (iN (q + 3) - 2).toNatClampNeg = iN (D (q + 1)) := by rw [ea, iN_nat (by omega)]; exact d1.1
    have n3 : v.1 1 0 (iN (q + 3) - 1).toNatClampNeg = iN (D (q + 2)) := by rw [eb, iN_nat (by omega)]; exact d2.1
    have es : 256 * iN (D (q + 1)) + iN (D (q + 2)) = iN (sN D q) := by
      rw [show 256 * iN (D (q + 1)) = iN (256 * D (q + 1)) from iN_mul 256 _, iN_add]
      congr 1
      show _ = (0 * 256 + D (q + 1 + 0)) * 256 + D (q + 1 + 1)
      rw [Nat.zero_mul, Nat.zero_add, Nat.add_zero, Nat.mul_comm]
    have fin : ∀ (s : Bool) (x : Int32), (s = true ↔ eqA D q p) → mRun kX_isNew (106, [some (zR 0 0), some (zI (iN (p + 3))), some (zI (iN (sN D p))), some (zI (bI b)), some (zI (iN k)), some (zI (iN (q + 3))), some (zI (bI s)), some (zI x)], [], v) Q := fun s x hs => by
      rw [eqA_iff hqn hp] at hs
      cases b with
      | false =>
        refine z_C.go 2 rfl ?_
        refine z_C.if (fun _ => ?_) (fun h => absurd (by decide) h)
        refine z_C.go 4 rfl ?_
        have k9 := ih (k + 1) false (some (zI (iN (q + 3)))) (some (zI (bI s))) (some (zI x)) (by omega) ⟨(fun h => by cases h), fun h => hb.mpr (fun j q9 hj hq9 => h j q9 (by omega) hq9)⟩
        rw [← iN_add k 1] at k9
        exact k9
      | true =>
        refine z_C.go 2 rfl ?_
        refine z_C.if (fun h => absurd h (by decide)) (fun _ => ?_)
        refine z_C.go 2 rfl ?_
        cases s with
        | true =>
          refine z_C.if (fun h => absurd h (by decide)) (fun _ => ?_)
          refine z_C.go 4 rfl ?_
          have k9 := ih (k + 1) false (some (zI (iN (q + 3)))) (some (zI 1)) (some (zI x)) (by omega) ⟨(fun h => by cases h), fun h => absurd (hs.mp rfl) (h k q (by omega) hgk)⟩
          rw [← iN_add k 1] at k9
          exact k9
        | false =>
          refine z_C.if (fun _ => ?_) (fun h => absurd (by decide) h)
          refine z_C.go 5 rfl ?_
          have k9 := ih (k + 1) true (some (zI (iN (q + 3)))) (some (zI 0)) (some (zI x)) (by omega) ⟨fun _ j q9 hj hq9 => by
            by_cases e : j = k
            · rw [e, hgk] at hq9
              cases hq9
              exact fun h9 => by have := hs.mpr h9; cases this
            · exact hb.mp rfl j q9 (by omega) hq9, fun _ => rfl⟩
          rw [← iN_add k 1] at k9
          exact k9
    obtain ⟨in1, in0⟩ := m_new60 (k := k) (f := bI b) hd hp hqn fin
    refine z_C.go 2 rfl ?_
    refine z_C.ld rfl rfl hG.1 ?_
    refine z_C.go 1 rfl ?_
    refine z_C.if (fun h => absurd ((iN_le (by omega) (by omega)).mp h) (by omega)) (fun _ => ?_)
    refine z_C.go 3 rfl ?_
    refine z_C.ld rfl (if_pos ⟨rfl, i1⟩) n1 ?_
    refine z_C.go 7 rfl ?_
    refine z_C.ld rfl (if_pos ⟨rfl, i2⟩) n2 ?_
    refine z_C.go 6 rfl ?_
    refine z_C.ld rfl (if_pos ⟨rfl, i3⟩) n3 ?_
    refine z_C.go 3 rfl ?_
    refine z_C.if (fun h => ?_) (fun h => ?_)
    · have h : 256 * iN (D (q + 1)) + iN (D (q + 2)) = iN (sN D p) := h
      rw [es, iN_inj (by omega) (by omega)] at h
      refine z_C.go 5 rfl ?_
      exact in1 (sN D p) 0 (by omega) h (fun j hj => by omega)
    · have h : ¬ 256 * iN (D (q + 1)) + iN (D (q + 2)) = iN (sN D p) := h
      rw [es, iN_inj (by omega) (by omega)] at h
      refine z_C.go 4 rfl ?_
      exact in0 (fun h9 => h h9.1) 0
theorem m_new (hd : mD len D v) (hG : mN G v) (hG60 : G.length < 60) (hg : ∀ q ∈ G, nOK D len q) (hp : nOK D len p)
    (h1 : ¬ dup D G p → Q (z_si (z_si v 4 0 G.length (iN (p + 3))) 0 0 21 (iN (G.length + 1))) (some (zI 1))) (h0 : dup D G p → Q (z_si (z_si v 4 0 G.length (iN (p + 3))) 0 0 21 (iN (G.length + 1))) (some (zI 0))) :
    mRun kX_isNew (0, [some (zR 0 0), some (zI (iN (p + 3))), some (zI (iN (sN D p))), none, none, none, none, none], [], v) Q := by
  refine z_C.go 4 rfl ?_
  exact m_new5 hd hG hG60 hg hp h1 h0 G.length 0 true none none none (by omega) ⟨fun _ j q hj => by omega, fun _ => rfl⟩
theorem mN.snoc (hG : mN G v) : mN (G ++ [p]) (z_si (z_si v 4 0 G.length (iN (p + 3))) 0 0 21 (iN (G.length + 1))) := by
  refine ⟨?_, fun i q hq => ?_⟩
  · rw [List.length_append]
    rfl
  · show (if 4 = 4 ∧ 0 = 0 ∧ i = G.length then iN (p + 3) else v.1 4 0 i) = _
    rcases get_snocN hq with ⟨g1, g2⟩ | ⟨g1, g2⟩
    · rw [if_neg (fun h => by omega)]
      exact hG.2 i q g2
    · rw [if_pos ⟨rfl, rfl, g1⟩, g2]
end NEW
