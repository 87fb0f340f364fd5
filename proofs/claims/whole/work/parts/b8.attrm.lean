/-! an attribute, the reference -/
def aF (v v' : z_W) : Prop := v'.2 = v.2 ∧ ∀ g i k, ¬ (g = 0 ∧ i = 0 ∧ (k = 13 ∨ k = 14 ∨ k = 21)) → ¬ g = 4 → v'.1 g i k = v.1 g i k
theorem aF.rf (v : z_W) : aF v v := ⟨rfl, fun _ _ _ _ _ => rfl⟩
theorem aF.tr {v v' v'' : z_W} (h1 : aF v v') (h2 : aF v' v'') : aF v v'' := ⟨h2.1.trans h1.1, fun g i k a b => (h2.2 g i k a b).trans (h1.2 g i k a b)⟩
theorem aF.n {v v' : z_W} (h : nF1 v v') : aF v v' := ⟨h.1, fun g i k a _ => h.2 g i k (fun h9 => a ⟨h9.1, h9.2.1, by omega⟩)⟩
theorem aF.si {v : z_W} {k : Nat} {x : Int32} (hk : k = 13 ∨ k = 14 ∨ k = 21) : aF v (z_si v 0 0 k x) := ⟨rfl, fun g i q a _ => if_neg (fun h => a ⟨h.1, h.2.1, by rw [h.2.2]; exact hk⟩)⟩
theorem aF.s4 {v : z_W} {k : Nat} {x : Int32} : aF v (z_si v 4 0 k x) := ⟨rfl, fun g i q _ b => if_neg (fun h => b h.1)⟩
theorem aF.q {v v' : z_W} (h : aF v v') : qF v v' := ⟨h.1, fun g i k a b _ _ => h.2 g i k (fun h9 => a ⟨h9.1, by omega, by omega⟩) b⟩
theorem mN.fr {G : List Nat} {v v' : z_W} (h : mN G v) (h1 : v'.1 0 0 21 = v.1 0 0 21) (h2 : ∀ k, v'.1 4 0 k = v.1 4 0 k) : mN G v' := ⟨h1.trans h.1, fun i q hq => (h2 i).trans (h.2 i q hq)⟩
def isOK (D : Nat → Nat) (len t V z : Nat) : Prop := (t = 33 ∧ z = 4) ∨ (t = 34 ∧ z = 1 ∧ V < len ∧ D V ≤ 1) ∨ (t = 68 ∧ (1 ≤ z ∧ z ≤ 8) ∧ V + z ≤ len ∧ Lt D V z)
section AT
variable {len p : Nat} {D : Nat → Nat} {G : List Nat} {v : z_W} {Q : z_W → Option z_V → Prop} {s : Int32}
/-- is the value's length right, and the value itself? -/
theorem m_atC {t V : Nat} {n4 n3 y : Int32} {x7 x8 x9 : Option z_V} (hd : mD len D v) (ht : t < 256) (hV : V ≤ 300) (h14 : v.1 0 0 14 = iN V)
    (K : ∀ i : Bool, (∀ z, z < 65536 → y = iN z → (i = true ↔ isOK D len t V z)) → mRun kX_attribute (185, [some (zR 0 0), some (zI s), some (zI (iN t)), some (zI n3), some (zI n4), some (zI y), some (zI (iN V)), x7, x8, x9], [zI (bI i)], v) Q) :
    mRun kX_attribute (96, [some (zR 0 0), some (zI s), some (zI (iN t)), some (zI n3), some (zI n4), some (zI y), some (zI (iN V)), x7, x8, x9], [], v) Q := by
  have hlen := hd.1
  have yz : ∀ {c z : Nat}, z < 65536 → y = iN z → c < 1000 → (y = iN c ↔ z = c) := fun {c z} h1 h2 h3 => by rw [h2]; exact iN_inj (by omega) (by omega)
  refine z_C.go 3 rfl ?_
  refine z_C.if (fun h33 => ?_) (fun h33 => ?_)
  · have h33 : t = 33 := (iN_inj (b := 33) (by omega) (by decide)).mp h33
    refine z_C.go 3 rfl ?_
    refine z_C.if (fun h => ?_) (fun h => ?_)
    · refine z_C.go 2 rfl ?_
      exact K true (fun z hz e => ⟨fun _ => Or.inl ⟨h33, (yz hz e (by decide)).mp h⟩, fun _ => rfl⟩)
    · refine z_C.go 2 rfl ?_
      exact K false (fun z hz e => ⟨(fun h => by cases h), fun h9 => by
        rcases h9 with ⟨-, h9⟩ | ⟨h9, -⟩ | ⟨h9, -⟩
        · exact absurd ((yz hz e (by decide)).mpr h9) h
        · omega
        · omega⟩)
  · have h33 : ¬ t = 33 := fun h9 => h33 ((iN_inj (b := 33) (by omega) (by decide)).mpr h9)
    refine z_C.go 3 rfl ?_
    refine z_C.if (fun h34 => ?_) (fun h34 => ?_)
    · have h34 : t = 34 := (iN_inj (b := 34) (by omega) (by decide)).mp h34
      refine z_C.go 3 rfl ?_
      refine z_C.if (fun h => ?_) (fun h => ?_)
      · refine z_C.go 1 rfl ?_
        by_cases hp : V < len
        · have hDV := (hd.2.2 V hp).2
          refine z_C.call rfl rfl (m_peek (Q := fun v' r => v' = v ∧ r = some (zI (iN (D V)))) hd h14 hV (fun _ => ⟨rfl, rfl⟩) (fun h => absurd hp h)) (fun v' r h9 => ?_)
          obtain ⟨rfl, rfl⟩ := h9
          refine z_C.go 1 rfl ?_
          refine z_C.if (fun h9 => absurd h9 (idx_ng (by omega))) (fun _ => ?_)
          refine z_C.go 1 rfl ?_
          refine z_C.call rfl rfl (m_peek (Q := fun v2 r => v2 = v' ∧ r = some (zI (iN (D V)))) hd h14 hV (fun _ => ⟨rfl, rfl⟩) (fun h => absurd hp h)) (fun v2 r h9 => ?_)
          obtain ⟨rfl, rfl⟩ := h9
          refine z_C.go 2 rfl ?_
          refine z_C.if (fun h2 => ?_) (fun h2 => ?_)
          · have h2 := (iN_le (a := 2) (by decide) (by omega)).mp h2
            refine z_C.go 2 rfl ?_
            exact K false (fun z hz e => ⟨(fun h => by cases h), fun h9 => by
              rcases h9 with ⟨h9, -⟩ | ⟨-, -, -, h9⟩ | ⟨h9, -⟩ <;> omega⟩)
          · have h2 : ¬ 2 ≤ D V := fun h9 => h2 ((iN_le (a := 2) (by decide) (by omega)).mpr h9)
            refine z_C.go 2 rfl ?_
            exact K true (fun z hz e => ⟨fun _ => Or.inr (Or.inl ⟨h34, (yz hz e (by decide)).mp h, hp, by omega⟩), fun _ => rfl⟩)
        · refine z_C.call rfl rfl (m_peek (Q := fun v' r => v' = v ∧ r = some (zI (-1))) hd h14 hV (fun h => absurd h hp) (fun _ => ⟨rfl, rfl⟩)) (fun v' r h9 => ?_)
          obtain ⟨rfl, rfl⟩ := h9
          refine z_C.go 1 rfl ?_
          refine z_C.if (fun _ => ?_) (fun h => absurd (by decide) h)
          refine z_C.go 2 rfl ?_
          exact K false (fun z hz e => ⟨(fun h => by cases h), fun h9 => by
            rcases h9 with ⟨h9, -⟩ | ⟨-, -, h9, -⟩ | ⟨h9, -⟩ <;> omega⟩)
      · refine z_C.go 2 rfl ?_
        exact K false (fun z hz e => ⟨(fun h => by cases h), fun h9 => by
          rcases h9 with ⟨h9, -⟩ | ⟨-, h9, -⟩ | ⟨h9, -⟩
          · omega
          · exact absurd ((yz hz e (by decide)).mpr h9) h
          · omega⟩)
    · have h34 : ¬ t = 34 := fun h9 => h34 ((iN_inj (b := 34) (by omega) (by decide)).mpr h9)
      refine z_C.go 3 rfl ?_
      refine z_C.if (fun h68 => ?_) (fun h68 => ?_)
      · have h68 : t = 68 := (iN_inj (b := 68) (by omega) (by decide)).mp h68
        refine z_C.go 2 rfl ?_
        refine z_C.if (fun h => ?_) (fun h => ?_)
        · refine z_C.go 1 rfl ?_
          exact K false (fun z hz e => ⟨(fun h => by cases h), fun h9 => by
            have h : y ≤ 0 := h
            rw [e] at h
            have := (iN_le (b := 0) (by omega) (by decide)).mp h
            rcases h9 with ⟨h9, -⟩ | ⟨h9, -⟩ | ⟨-, h9, -⟩ <;> omega⟩)
        · have h : ¬ y ≤ 0 := h
          refine z_C.go 3 rfl ?_
          refine z_C.if (fun h2 => ?_) (fun h2 => ?_)
          · refine z_C.go 1 rfl ?_
            exact K false (fun z hz e => ⟨(fun h => by cases h), fun h9 => by
              have h2 : 9 ≤ y := h2
              rw [e] at h2
              have := (iN_le (a := 9) (by decide) (by omega)).mp h2
              rcases h9 with ⟨h9, -⟩ | ⟨h9, -⟩ | ⟨-, h9, -⟩ <;> omega⟩)
          · have h2 : ¬ 9 ≤ y := h2
            obtain ⟨ey, ey2⟩ := iN_of (Int32.le_of_lt (Int32.not_le.mp h))
            generalize y.toInt.toNat = z0 at ey ey2
            have hz1 : 1 ≤ z0 ∧ z0 ≤ 8 := by
              rw [ey] at h h2
              constructor
              · exact Nat.lt_of_not_le (fun h9 => h ((iN_le (b := 0) (by omega) (by decide)).mpr h9))
              · exact Nat.lt_succ_iff.mp (Nat.lt_of_not_le (fun h9 => h2 ((iN_le (a := 9) (by decide) (by omega)).mpr h9)))
            subst ey
            refine z_C.go 3 rfl ?_
            by_cases hL : V + z0 ≤ len ∧ Lt D V z0
            · refine z_C.call rfl rfl (m_let (n := z0) (Q := fun v' r => v' = v ∧ r = some (zI 1)) hd hV hz1.2 (fun _ _ => ⟨rfl, rfl⟩) (fun h => absurd hL h)) (fun v' r h9 => ?_)
              obtain ⟨rfl, rfl⟩ := h9
              refine z_C.go 1 rfl ?_
              refine z_C.if (fun h => absurd h (by decide)) (fun _ => ?_)
              refine z_C.go 2 rfl ?_
              exact K true (fun z hz e => by
                have e : z0 = z := (iN_inj (by omega) (by omega)).mp e
                subst e
                exact ⟨fun _ => Or.inr (Or.inr ⟨h68, hz1, hL.1, hL.2⟩), fun _ => rfl⟩)
            · refine z_C.call rfl rfl (m_let (n := z0) (Q := fun v' r => v' = v ∧ r = some (zI 0)) hd hV hz1.2 (fun a b => absurd ⟨a, b⟩ hL) (fun _ => ⟨rfl, rfl⟩)) (fun v' r h9 => ?_)
              obtain ⟨rfl, rfl⟩ := h9
              refine z_C.go 1 rfl ?_
              refine z_C.if (fun _ => ?_) (fun h => absurd (by decide) h)
              refine z_C.go 1 rfl ?_
              exact K false (fun z hz e => by
                have e : z0 = z := (iN_inj (by omega) (by omega)).mp e
                subst e
                exact ⟨(fun h => by cases h), fun h9 => by
                  rcases h9 with ⟨h9, -⟩ | ⟨h9, -⟩ | ⟨-, -, h9⟩
                  · omega
                  · omega
                  · exact absurd h9 hL⟩)
      · have h68 : ¬ t = 68 := fun h9 => h68 ((iN_inj (b := 68) (by omega) (by decide)).mpr h9)
        refine z_C.go 1 rfl ?_
        exact K false (fun z hz e => ⟨(fun h => by cases h), fun h9 => by rcases h9 with ⟨h9, -⟩ | ⟨h9, -⟩ | ⟨h9, -⟩ <;> omega⟩)
theorem isOK_of (h : aGood D len p) : isOK D len (D p) (sV D p) (sZ D p) := by
  obtain ⟨-, -, -, h4, h5, h6, h7⟩ := h
  have h6 : sV D p + sZ D p ≤ len := h6
  rcases h5 with ⟨a, b⟩ | ⟨a, b⟩ | ⟨a, b, c⟩
  · exact Or.inl ⟨a, b⟩
  · exact Or.inr (Or.inl ⟨a, b, by omega, h7.1 a⟩)
  · exact Or.inr (Or.inr ⟨a, ⟨b, c⟩, h6, h7.2 a⟩)
theorem isOK_to (h1 : nOK D len p) (h3 : p + 3 ≤ len) (h4 : sV D p ≤ len) (h : isOK D len (D p) (sV D p) (sZ D p)) (h6 : sE D p ≤ len) : aGood D len p := by
  refine ⟨h3, h1.1, h1.2, h4, ?_, h6, ?_⟩
  · rcases h with ⟨a, b⟩ | ⟨a, b, -⟩ | ⟨a, b, -⟩
    · exact Or.inl ⟨a, b⟩
    · exact Or.inr (Or.inl ⟨a, b⟩)
    · exact Or.inr (Or.inr ⟨a, b.1, b.2⟩)
  · rcases h with ⟨a, b⟩ | ⟨a, b, c, d⟩ | ⟨a, b, c, d⟩
    · exact ⟨fun h => by omega, fun h => by omega⟩
    · exact ⟨fun _ => d, fun h => by omega⟩
    · exact ⟨fun h => by omega, fun _ => d⟩
/-- what an attribute's number is -/
def aNum (D : Nat → Nat) (p : Nat) : Int32 := if D p = 68 then 0 else iN (numF D (sV D p) (sZ D p))
theorem m_attrA (hd : mD len D v) (h13 : v.1 0 0 13 = 1) (h14 : v.1 0 0 14 = iN p) (hpl : p ≤ len) (hG : mN G v) (hG60 : G.length < 60) (hg : ∀ q ∈ G, nOK D len q)
    (K1 : aGood D len p → ¬ dup D G p → ∀ v', aF v v' → v'.1 0 0 13 = 1 → v'.1 0 0 14 = iN (sE D p) → mN (G ++ [p]) v' → mRun kX_attribute (255, [some (zR 0 0), some (zI s), some (zI (iN (D p))), some (zI (iN (sN D p))), some (zI (iN (p + 3))), some (zI (iN (sZ D p))), some (zI (iN (sV D p))), some (zI 1), some (zI (aNum D p)), none], [], v') Q)
    (K0 : ¬ (aGood D len p ∧ ¬ dup D G p) → ∀ v', aF v v' → v'.1 0 0 13 = 0 → Q v' none) :
    mRun kX_attribute (0, [some (zR 0 0), some (zI s), none, none, none, none, none, none, none, none], [], v) Q := by
  have hlen := hd.1
  have hb : ∀ q, q < len → D q < 256 := fun q hq => (hd.2.2 q hq).2
  refine z_C.go 2 rfl ?_
  refine z_C.call rfl rfl (m_num (b := true) (n := 1) (Q := fun v' r => ∃ x, r = some (zI x) ∧ nF1 v v' ∧ v'.1 0 0 13 = iN (gI true len (p + 1)) ∧ v'.1 0 0 14 = iN (p + 1) ∧ (true = true ∧ p + 1 ≤ len → x = iN (numF D p 1))) hd (by rw [h13, show gI true len p = 1 from if_pos ⟨rfl, hpl⟩]; rfl) h14 (by omega) (by decide) (fun v' x a b c d => ⟨x, rfl, a, b, c, d⟩)) (fun v1 r h => ?_)
  obtain ⟨t, rfl, f1, g1, a1, t1⟩ := h
  refine z_C.go 3 rfl ?_
  refine z_C.call rfl rfl (m_num (b := true) (p := p + 1) (n := 2) (Q := fun v' r => ∃ x, r = some (zI x) ∧ nF1 v1 v' ∧ v'.1 0 0 13 = iN (gI true len (p + 1 + 2)) ∧ v'.1 0 0 14 = iN (p + 1 + 2) ∧ (true = true ∧ p + 1 + 2 ≤ len → x = iN (numF D (p + 1) 2))) (hd.q f1.q) g1 a1 (by omega) (by decide) (fun v' x a b c d => ⟨x, rfl, a, b, c, d⟩)) (fun v2 r h => ?_)
  obtain ⟨n, rfl, f2, g2, a2, n2⟩ := h
  have e3 : p + 1 + 2 = p + 3 := by omega
  rw [e3] at g2 a2 n2
  have F2 : aF v v2 := (aF.n f1).tr (aF.n f2)
  have hd2 := hd.q F2.q
  have bad0 : ∀ (w9 : z_W), aF v w9 → ¬ (aGood D len p ∧ ¬ dup D G p) → ∀ tt nn : Int32, mRun kX_attribute (54, [some (zR 0 0), some (zI s), some (zI tt), some (zI nn), some (zI (iN (p + 3))), none, none, none, none, none], [], z_si w9 0 0 13 0) Q := fun w9 hF hno tt nn => by
    refine z_C.go 1 rfl ?_
    refine z_C.ld rfl rfl (show (z_si w9 0 0 13 0).1 0 0 13 = 0 from rfl) ?_
    refine z_C.go 1 rfl ?_
    refine z_C.if (fun _ => ?_) (fun h => absurd (by decide) h)
    exact z_C.ret rfl rfl (K0 hno _ (hF.tr (aF.si (Or.inl rfl))) rfl)
  refine z_C.go 2 rfl ?_
  refine z_C.ld rfl rfl a2 ?_
  refine z_C.go 3 rfl ?_
  refine z_C.ld rfl rfl g2 ?_
  refine z_C.go 1 rfl ?_
  by_cases c3 : p + 3 ≤ len
  · rw [show gI true len (p + 3) = 1 from if_pos ⟨rfl, c3⟩]
    have en : n = iN (sN D p) := n2 ⟨rfl, c3⟩
    have et : t = iN (D p) := by rw [t1 ⟨rfl, by omega⟩, numF_1]
    subst en
    subst et
    have hn : sN D p < 65536 := two_b (hb _ (by omega)) (hb _ (by omega))
    have hDp := hb p (by omega)
    have fail : ¬ nOK D len p → ¬ (aGood D len p ∧ ¬ dup D G p) := fun h h9 => h h9.1.n
    refine z_C.if (fun h => absurd h (by decide)) (fun _ => ?_)
    refine z_C.go 2 rfl ?_
    refine z_C.if (fun h => ?_) (fun h => ?_)
    · have h := (iN_le (b := 0) (by omega) (by decide)).mp h
      refine z_C.go 2 rfl ?_
      exact bad0 v2 F2 (fail (fun h9 => by have := h9.1.1; omega)) _ _
    · have hn1 : 1 ≤ sN D p := Nat.lt_of_not_le (fun h9 => h ((iN_le (b := 0) (by omega) (by decide)).mpr h9))
      refine z_C.go 3 rfl ?_
      refine z_C.if (fun h => ?_) (fun h => ?_)
      · have h := (iN_le (a := 9) (by decide) (by omega)).mp h
        refine z_C.go 2 rfl ?_
        exact bad0 v2 F2 (fail (fun h9 => by have := h9.1.2; omega)) _ _
      · have hn8 : sN D p ≤ 8 := Nat.lt_succ_iff.mp (Nat.lt_of_not_le (fun h9 => h ((iN_le (a := 9) (by decide) (by omega)).mpr h9)))
        refine z_C.go 3 rfl ?_
        by_cases hL : p + 3 + sN D p ≤ len ∧ Lt D (p + 3) (sN D p)
        · have hN : nOK D len p := ⟨⟨hn1, hn8⟩, hL.1, hL.2⟩
          refine z_C.call rfl rfl (m_let (p := p + 3) (n := sN D p) (Q := fun v' r => v' = v2 ∧ r = some (zI 1)) hd2 (by omega) hn8 (fun _ _ => ⟨rfl, rfl⟩) (fun h => absurd hL h)) (fun v' r h => ?_)
          obtain ⟨rfl, rfl⟩ := h
          refine z_C.go 1 rfl ?_
          refine z_C.if (fun h => absurd h (by decide)) (fun _ => ?_)
          refine z_C.go 4 rfl ?_
          refine z_C.ld rfl rfl (show (z_si v' 0 0 13 1).1 0 0 13 = 1 from rfl) ?_
          refine z_C.go 1 rfl ?_
          refine z_C.if (fun h => absurd h (by decide)) (fun _ => ?_)
          refine z_C.go 4 rfl ?_
          have F3 : aF v (z_si v' 0 0 13 1) := F2.tr (aF.si (Or.inl rfl))
          have hd3 := hd.q F3.q
          have nf : ∀ k, v'.1 4 0 k = v.1 4 0 k := fun k => (f2.2 4 0 k (by omega)).trans (f1.2 4 0 k (by omega))
          have n21 : v'.1 0 0 21 = v.1 0 0 21 := (f2.2 0 0 21 (by omega)).trans (f1.2 0 0 21 (by omega))
          have hG3 : mN G (z_si v' 0 0 13 1) := hG.fr n21 nf
          -- both ways from here
          have both : ∀ bb : Bool, (bb = true ↔ ¬ dup D G p) → mRun kX_attribute (70, [some (zR 0 0), some (zI s), some (zI (iN (D p))), some (zI (iN (sN D p))), some (zI (iN (p + 3))), none, none, none, none, none], [zI (bI bb), zR 0 0], z_si (z_si (z_si v' 0 0 13 1) 4 0 G.length (iN (p + 3))) 0 0 21 (iN (G.length + 1))) Q := by
            intro bb hbb
            have hG4 : mN (G ++ [p]) (z_si (z_si (z_si v' 0 0 13 1) 4 0 G.length (iN (p + 3))) 0 0 21 (iN (G.length + 1))) := hG3.snoc
            have F4 : aF v (z_si (z_si (z_si v' 0 0 13 1) 4 0 G.length (iN (p + 3))) 0 0 21 (iN (G.length + 1))) := (F3.tr aF.s4).tr (aF.si (Or.inr (Or.inr rfl)))
            have a4 : (z_si (z_si (z_si v' 0 0 13 1) 4 0 G.length (iN (p + 3))) 0 0 21 (iN (G.length + 1))).1 0 0 14 = iN (p + 3) := a2
            generalize z_si (z_si (z_si v' 0 0 13 1) 4 0 G.length (iN (p + 3))) 0 0 21 (iN (G.length + 1)) = v4 at *
            have hbI : bI bb = 0 ∨ bI bb = 1 := by cases bb; exact Or.inl rfl; exact Or.inr rfl
            refine z_C.go1 rfl (if_pos ⟨rfl, Or.inr hbI⟩) ?_
            refine z_C.go 2 rfl ?_
            refine z_C.ld rfl rfl (show (z_si v4 0 0 13 (bI bb)).1 0 0 14 = iN (p + 3) from a4) ?_
            refine z_C.go 5 rfl ?_
            have e5 : iN (p + 3) + iN (sN D p) = iN (p + 3 + sN D p) := iN_add _ _
            rw [e5]
            have F5 : aF v (z_si (z_si v4 0 0 13 (bI bb)) 0 0 14 (iN (p + 3 + sN D p))) := (F4.tr (aF.si (Or.inl rfl))).tr (aF.si (Or.inr (Or.inl rfl)))
            have hG5 : mN (G ++ [p]) (z_si (z_si v4 0 0 13 (bI bb)) 0 0 14 (iN (p + 3 + sN D p))) := hG4.fr rfl (fun _ => rfl)
            have g5 : (z_si (z_si v4 0 0 13 (bI bb)) 0 0 14 (iN (p + 3 + sN D p))).1 0 0 13 = iN (gI bb len (p + 3 + sN D p)) := by
              show bI bb = _
              unfold bI gI
              cases bb
              · rfl
              · rw [if_pos rfl, if_pos ⟨rfl, hL.1⟩]
                rfl
            refine z_C.call rfl rfl (m_num (b := bb) (p := p + 3 + sN D p) (n := 2) (Q := fun v' r => ∃ x, r = some (zI x) ∧ nF1 (z_si (z_si v4 0 0 13 (bI bb)) 0 0 14 (iN (p + 3 + sN D p))) v' ∧ v'.1 0 0 13 = iN (gI bb len (p + 3 + sN D p + 2)) ∧ v'.1 0 0 14 = iN (p + 3 + sN D p + 2) ∧ (bb = true ∧ p + 3 + sN D p + 2 ≤ len → x = iN (numF D (p + 3 + sN D p) 2))) (hd.q F5.q) g5 rfl (by omega) (by decide) (fun v' x a b c d => ⟨x, rfl, a, b, c, d⟩)) (fun v6 r h => ?_)
            obtain ⟨y, rfl, f6, g6, a6, y6⟩ := h
            have ev : p + 3 + sN D p + 2 = sV D p := by unfold sV; omega
            rw [ev] at g6 a6 y6
            have F6 : aF v v6 := F5.tr (aF.n f6)
            have hd6 := hd.q F6.q
            have hG6 : mN (G ++ [p]) v6 := hG5.fr (f6.2 0 0 21 (by omega)) (fun k => f6.2 4 0 k (by omega))
            refine z_C.go 2 rfl ?_
            refine z_C.ld rfl rfl a6 ?_
            refine z_C.go 1 rfl ?_
            show mRun kX_attribute (96, [some (zR 0 0), some (zI s), some (zI (iN (D p))), some (zI (iN (sN D p))), some (zI (iN (p + 3))), some (zI y), some (zI (iN (sV D p))), none, none, none], [], v6) Q
            refine m_atC hd6 hDp (by unfold sV; omega) a6 (fun i hi => ?_)
            have bad2 : ¬ (aGood D len p ∧ ¬ dup D G p) → mRun kX_attribute (216, [some (zR 0 0), some (zI s), some (zI (iN (D p))), some (zI (iN (sN D p))), some (zI (iN (p + 3))), some (zI y), some (zI (iN (sV D p))), some (zI (bI i)), none, none], [zR 0 0], v6) Q := fun hno => by
              refine z_C.go 3 rfl ?_
              refine z_C.ld rfl rfl (show (z_si v6 0 0 13 0).1 0 0 13 = 0 from rfl) ?_
              refine z_C.go 1 rfl ?_
              refine z_C.if (fun _ => ?_) (fun h => absurd (by decide) h)
              exact z_C.ret rfl rfl (K0 hno _ (F6.tr (aF.si (Or.inl rfl))) rfl)
            refine z_C.go 3 rfl ?_
            refine z_C.ld rfl rfl g6 ?_
            refine z_C.go 1 rfl ?_
            show mRun kX_attribute (if iN (gI bb len (sV D p)) = 0 then 216 else 195, [some (zR 0 0), some (zI s), some (zI (iN (D p))), some (zI (iN (sN D p))), some (zI (iN (p + 3))), some (zI y), some (zI (iN (sV D p))), some (zI (bI i)), none, none], [zR 0 0], v6) Q
            by_cases cg : bb = true ∧ sV D p ≤ len
            · rw [show gI bb len (sV D p) = 1 from if_pos cg]
              have ey : y = iN (sZ D p) := y6 cg
              have hz : sZ D p < 65536 := two_b (hb _ (by have := cg.2; unfold sV at this; omega)) (hb _ (by have := cg.2; unfold sV at this; omega))
              have hi2 := hi (sZ D p) hz ey
              subst ey
              refine z_C.if (fun h => absurd h (by decide)) (fun _ => ?_)
              refine z_C.go 2 rfl ?_
              cases i with
              | false =>
                refine z_C.if (fun _ => ?_) (fun h => absurd (by decide) h)
                exact bad2 (fun h9 => by have := hi2.mpr (isOK_of h9.1); cases this)
              | true =>
                refine z_C.if (fun h => absurd h (by decide)) (fun _ => ?_)
                refine z_C.go 4 rfl ?_
                refine z_C.ld rfl rfl hd6.2.1 ?_
                refine z_C.go 1 rfl ?_
                have ee : iN (sV D p) + iN (sZ D p) = iN (sE D p) := iN_add _ _
                have hsE : sE D p < 70000 := by have := cg.2; unfold sE; omega
                refine z_C.if (fun h => ?_) (fun h => ?_)
                · have h : iN len < iN (sV D p) + iN (sZ D p) := h
                  rw [ee, iN_lt (by omega) (by omega)] at h
                  exact bad2 (fun h9 => by have := h9.1.2.2.2.2.2.1; omega)
                · have h : ¬ iN len < iN (sV D p) + iN (sZ D p) := h
                  rw [ee, iN_lt (by omega) (by omega)] at h
                  have hGd : aGood D len p := isOK_to hN c3 cg.2 (hi2.mp rfl) (by omega)
                  have hnd := hbb.mp cg.1
                  have hz8 : sZ D p ≤ 8 := by rcases hGd.2.2.2.2.1 with h | h | h <;> omega
                  refine z_C.go 4 rfl ?_
                  refine z_C.ld rfl rfl (show (z_si v6 0 0 13 1).1 0 0 13 = 1 from rfl) ?_
                  refine z_C.go 1 rfl ?_
                  refine z_C.if (fun h => absurd h (by decide)) (fun _ => ?_)
                  have F7 : aF v (z_si v6 0 0 13 1) := F6.tr (aF.si (Or.inl rfl))
                  have hG7 : mN (G ++ [p]) (z_si v6 0 0 13 1) := hG6.fr rfl (fun _ => rfl)
                  show mRun kX_attribute (228, [some (zR 0 0), some (zI s), some (zI (iN (D p))), some (zI (iN (sN D p))), some (zI (iN (p + 3))), some (zI (iN (sZ D p))), some (zI (iN (sV D p))), some (zI 1), none, none], [], z_si v6 0 0 13 1) Q
                  refine z_C.go 3 rfl ?_
                  refine z_C.if (fun h68 => ?_) (fun h68 => ?_)
                  · have h68 : D p = 68 := (iN_inj (b := 68) (by omega) (by decide)).mp h68
                    have ean : aNum D p = 0 := by unfold aNum; rw [if_pos h68]
                    refine z_C.go 3 rfl ?_
                    refine z_C.go 5 rfl ?_
                    rw [ee]
                    have k9 := K1 hGd hnd (z_si (z_si v6 0 0 13 1) 0 0 14 (iN (sE D p))) (F7.tr (aF.si (Or.inr (Or.inl rfl)))) rfl rfl (hG7.fr rfl (fun _ => rfl))
                    rw [ean] at k9
                    exact k9
                  · have h68 : ¬ D p = 68 := fun h9 => h68 (by rw [h9]; rfl)
                    have ean : aNum D p = iN (numF D (sV D p) (sZ D p)) := by unfold aNum; rw [if_neg h68]
                    refine z_C.go 2 rfl ?_
                    refine z_C.call rfl rfl (m_num (b := true) (p := sV D p) (n := sZ D p) (Q := fun v' r => r = some (zI (aNum D p)) ∧ nF1 (z_si v6 0 0 13 1) v' ∧ v'.1 0 0 13 = 1) (hd.q F7.q) (by rw [show gI true len (sV D p) = 1 from if_pos ⟨rfl, cg.2⟩]; rfl) a6 (by omega) hz8 (fun v' x a b c d => ⟨by rw [d ⟨rfl, by unfold sE at h; omega⟩, ean], a, by rw [b, show gI true len (sV D p + sZ D p) = 1 from if_pos ⟨rfl, by unfold sE at h; omega⟩]; rfl⟩)) (fun v8 r h => ?_)
                    obtain ⟨rfl, f8, g8⟩ := h
                    refine z_C.go 1 rfl ?_
                    refine z_C.go 5 rfl ?_
                    rw [ee]
                    exact K1 hGd hnd (z_si v8 0 0 14 (iN (sE D p))) ((F7.tr (aF.n f8)).tr (aF.si (Or.inr (Or.inl rfl)))) g8 rfl ((hG7.fr (f8.2 0 0 21 (by omega)) (fun k => f8.2 4 0 k (by omega))).fr rfl (fun _ => rfl))
            · rw [show gI bb len (sV D p) = 0 from if_neg cg]
              refine z_C.if (fun _ => ?_) (fun h => absurd (by decide) h)
              exact bad2 (fun h9 => cg ⟨hbb.mpr h9.2, h9.1.2.2.2.1⟩)
          by_cases hdp : dup D G p
          · refine z_C.call rfl rfl (m_new (Q := fun w' r => w' = z_si (z_si (z_si v' 0 0 13 1) 4 0 G.length (iN (p + 3))) 0 0 21 (iN (G.length + 1)) ∧ r = some (zI 0)) hd3 hG3 hG60 hg hN (fun h => absurd hdp h) (fun _ => ⟨rfl, rfl⟩)) (fun w' r h => ?_)
            obtain ⟨rfl, rfl⟩ := h
            exact both false ⟨(fun h => by cases h), fun h => absurd hdp h⟩
          · refine z_C.call rfl rfl (m_new (Q := fun w' r => w' = z_si (z_si (z_si v' 0 0 13 1) 4 0 G.length (iN (p + 3))) 0 0 21 (iN (G.length + 1)) ∧ r = some (zI 1)) hd3 hG3 hG60 hg hN (fun _ => ⟨rfl, rfl⟩) (fun h => absurd h hdp)) (fun w' r h => ?_)
            obtain ⟨rfl, rfl⟩ := h
            exact both true ⟨fun _ => hdp, fun _ => rfl⟩
        · refine z_C.call rfl rfl (m_let (p := p + 3) (n := sN D p) (Q := fun v' r => v' = v2 ∧ r = some (zI 0)) hd2 (by omega) hn8 (fun a b => absurd ⟨a, b⟩ hL) (fun _ => ⟨rfl, rfl⟩)) (fun v' r h => ?_)
          obtain ⟨rfl, rfl⟩ := h
          refine z_C.go 1 rfl ?_
          refine z_C.if (fun _ => ?_) (fun h => absurd (by decide) h)
          refine z_C.go 2 rfl ?_
          exact bad0 v' F2 (fail (fun h9 => hL h9.2)) _ _
  · rw [show gI true len (p + 3) = 0 from if_neg (fun h => c3 h.2)]
    refine z_C.if (fun _ => ?_) (fun h => absurd (by decide) h)
    refine z_C.go 2 rfl ?_
    exact bad0 v2 F2 (fun h9 => c3 h9.1.1) _ _
end AT
