/-! the reference reads bytes of the draft -/
theorem shl_or32 {a b : Nat} (hb : b < 256) : (iN a <<< ((8 : Int32) &&& 31)) ||| iN b = iN (a * 256 + b) := by
  have e8 : ((8 : Int32) &&& 31) = 8 := by decide
  rw [e8]
  apply Int32.toBitVec_inj.mp
  rw [Int32.toBitVec_or, Int32.toBitVec_shiftLeft, Int32.toBitVec_ofNat', Int32.toBitVec_ofNat', Int32.toBitVec_ofNat']
  have e : (Int32.toBitVec 8).smod 32 = 8#32 := by decide
  rw [e]
  show BitVec.ofNat 32 a <<< (8#32).toNat ||| BitVec.ofNat 32 b = _
  apply BitVec.eq_of_toNat_eq
  rw [BitVec.toNat_or, BitVec.toNat_shiftLeft, BitVec.toNat_ofNat, BitVec.toNat_ofNat, BitVec.toNat_ofNat]
  rw [Nat.mod_eq_of_lt (show b < 2 ^ 32 by omega)]
  show (a % 2 ^ 32) <<< 8 % 2 ^ 32 ||| b = (a * 256 + b) % 2 ^ 32
  have h1 : (a % 2 ^ 32) <<< 8 % 2 ^ 32 = (a % 2 ^ 24) <<< 8 := by
    rw [Nat.shiftLeft_eq, Nat.shiftLeft_eq]
    omega
  rw [h1, ← Nat.shiftLeft_add_eq_or_of_lt (show b < 2 ^ 8 by omega), Nat.shiftLeft_eq]
  omega
def mD (len : Nat) (D : Nat → Nat) (v : z_W) : Prop := len ≤ 240 ∧ v.1 0 0 2 = iN len ∧ ∀ k, k < len → v.1 1 0 k = iN (D k) ∧ D k < 256
/-- only what reading a request writes -/
def qF (v v' : z_W) : Prop := v'.2 = v.2 ∧ ∀ g i k, ¬ (g = 0 ∧ 13 ≤ k ∧ k ≤ 21) → ¬ g = 4 → ¬ (g = 2 ∧ 250 ≤ k) → ¬ (g = 3 ∧ 1800 ≤ k) → v'.1 g i k = v.1 g i k
theorem qF.rf (v : z_W) : qF v v := ⟨rfl, fun _ _ _ _ _ _ _ => rfl⟩
theorem qF.tr {v v' v'' : z_W} (h1 : qF v v') (h2 : qF v' v'') : qF v v'' := ⟨h2.1.trans h1.1, fun g i k a b c d => (h2.2 g i k a b c d).trans (h1.2 g i k a b c d)⟩
theorem mD.q {len : Nat} {D : Nat → Nat} {v v' : z_W} (h : mD len D v) (hf : qF v v') : mD len D v' :=
  ⟨h.1, (hf.2 0 0 2 (by omega) (by omega) (by omega) (by omega)).trans h.2.1, fun k hk => ⟨(hf.2 1 0 k (by omega) (by omega) (by omega) (by omega)).trans (h.2.2 k hk).1, (h.2.2 k hk).2⟩⟩
/-- only where the reading is, and whether it is good -/
def nF1 (v v' : z_W) : Prop := v'.2 = v.2 ∧ ∀ g i k, ¬ (g = 0 ∧ i = 0 ∧ (k = 13 ∨ k = 14)) → v'.1 g i k = v.1 g i k
theorem nF1.rf (v : z_W) : nF1 v v := ⟨rfl, fun _ _ _ _ => rfl⟩
theorem nF1.tr {v v' v'' : z_W} (h1 : nF1 v v') (h2 : nF1 v' v'') : nF1 v v'' := ⟨h2.1.trans h1.1, fun g i k a => (h2.2 g i k a).trans (h1.2 g i k a)⟩
theorem nF1.si {v : z_W} {k : Nat} {x : Int32} (hk : k = 13 ∨ k = 14) : nF1 v (z_si v 0 0 k x) := ⟨rfl, fun g i q hg => if_neg (fun h => hg ⟨h.1, h.2.1, by rw [h.2.2]; exact hk⟩)⟩
theorem nF1.q {v v' : z_W} (h : nF1 v v') : qF v v' := ⟨h.1, fun g i k a _ _ _ => h.2 g i k (fun h9 => a ⟨h9.1, by omega, by omega⟩)⟩
def gI (b : Bool) (len p : Nat) : Nat := if b = true ∧ p ≤ len then 1 else 0
section RM
variable {len p n : Nat} {D : Nat → Nat} {v : z_W} {Q : z_W → Option z_V → Prop}
theorem m_num_loop {b : Bool} {V0 : z_W} (hp : p ≤ 300) (hn : n ≤ 8) (K : ∀ v' x, nF1 V0 v' → v'.1 0 0 13 = iN (gI b len (p + n)) → v'.1 0 0 14 = iN (p + n) → (b = true ∧ p + n ≤ len → x = iN (numF D p n)) → Q v' (some (zI x))) : ∀ (d i : Nat) (v : z_W) (x : Int32), i + d = n → mD len D v → nF1 V0 v → v.1 0 0 13 = iN (gI b len (p + i)) → v.1 0 0 14 = iN (p + i) → (b = true ∧ p + i ≤ len → x = iN (numF D p i)) →
    mRun kX_number (4, [some (zR 0 0), some (zI (iN n)), some (zI x), some (zI (iN i))], [], v) Q := by
  intro d
  induction d with
  | zero =>
    intro i v x hi hd hf h13 h14 hx
    have e : i = n := by omega
    subst e
    refine z_C.go 3 rfl ?_
    refine z_C.if (fun _ => ?_) (fun h => absurd ((iN_le (by omega) (by omega)).mpr (by omega)) h)
    refine z_C.go 1 rfl ?_
    exact z_C.ret rfl rfl (K v x hf h13 h14 hx)
  | succ d ih =>
    intro i v x hi hd hf h13 h14 hx
    have hlen := hd.1
    have en : iN p + iN i = iN (p + i) := iN_add p i
    refine z_C.go 3 rfl ?_
    refine z_C.if (fun h => absurd ((iN_le (by omega) (by omega)).mp h) (by omega)) (fun _ => ?_)
    refine z_C.go 2 rfl ?_
    refine z_C.ld rfl rfl h13 ?_
    refine z_C.go 1 rfl ?_
    by_cases hg : b = true ∧ p + i ≤ len
    · have e1 : gI b len (p + i) = 1 := if_pos hg
      rw [e1]
      refine z_C.if (fun h => absurd h (by decide)) (fun _ => ?_)
      refine z_C.go 1 rfl ?_
      refine z_C.ld rfl rfl h14 ?_
      refine z_C.go 1 rfl ?_
      refine z_C.ld rfl rfl hd.2.1 ?_
      refine z_C.go 1 rfl ?_
      refine z_C.if (fun h => ?_) (fun h => ?_)
      · have h := (iN_le (by omega) (by omega)).mp h
        refine z_C.go 8 rfl ?_
        have h14' : (z_si v 0 0 13 0).1 0 0 14 = iN (p + i) := h14
        refine z_C.if (fun _ => ?_) (fun h => absurd rfl h)
        refine z_C.go 5 rfl ?_
        refine z_C.ld rfl rfl h14' ?_
        refine z_C.go 5 rfl ?_
        have k9 := ih (i + 1) (z_si (z_si v 0 0 13 0) 0 0 14 (iN (p + i) + 1)) ((x <<< ((8 : Int32) &&& 31)) ||| 0) (by omega) (hd.q (((nF1.si (Or.inl rfl)).tr (nF1.si (Or.inr rfl))).q)) (hf.tr ((nF1.si (Or.inl rfl)).tr (nF1.si (Or.inr rfl)))) (by
          rw [show gI b len (p + (i + 1)) = 0 from if_neg (fun h9 => by omega)]
          rfl) (by
          show iN (p + i) + 1 = iN (p + (i + 1))
          exact iN_add (p + i) 1) (fun h9 => by omega)
        rw [← iN_add i 1] at k9
        exact k9
      · have hlt : p + i < len := Nat.lt_of_not_le (fun h9 => h ((iN_le (by omega) (by omega)).mpr h9))
        have hDi := hd.2.2 (p + i) hlt
        refine z_C.go 9 rfl ?_
        have h14' : (z_si v 0 0 13 1).1 0 0 14 = iN (p + i) := h14
        refine z_C.if (fun h => absurd h (show ¬ (1 : Int32) = 0 by decide)) (fun _ => ?_)
        refine z_C.go 3 rfl ?_
        refine z_C.ld rfl rfl h14' ?_
        have i1 : z_in (iN (p + i)) 240 = true := iN_in (by omega) (by omega)
        refine z_C.ld (y := iN (D (p + i))) rfl (if_pos ⟨rfl, i1⟩) (by rw [iN_nat (by omega)]; exact hDi.1) ?_
        refine z_C.go 5 rfl ?_
        refine z_C.ld rfl rfl h14' ?_
        refine z_C.go 5 rfl ?_
        have k9 := ih (i + 1) (z_si (z_si v 0 0 13 1) 0 0 14 (iN (p + i) + 1)) ((x <<< ((8 : Int32) &&& 31)) ||| iN (D (p + i))) (by omega) (hd.q (((nF1.si (Or.inl rfl)).tr (nF1.si (Or.inr rfl))).q)) (hf.tr ((nF1.si (Or.inl rfl)).tr (nF1.si (Or.inr rfl)))) (by
          rw [show gI b len (p + (i + 1)) = 1 from if_pos ⟨hg.1, by omega⟩]
          rfl) (by
          show iN (p + i) + 1 = iN (p + (i + 1))
          exact iN_add (p + i) 1) (fun _ => by
          rw [hx hg]
          exact shl_or32 hDi.2)
        rw [← iN_add i 1] at k9
        exact k9
    · have e1 : gI b len (p + i) = 0 := if_neg hg
      rw [e1]
      refine z_C.if (fun _ => ?_) (fun h => absurd (by decide) h)
      refine z_C.go 8 rfl ?_
      have h14' : (z_si v 0 0 13 0).1 0 0 14 = iN (p + i) := h14
      refine z_C.if (fun _ => ?_) (fun h => absurd rfl h)
      refine z_C.go 5 rfl ?_
      refine z_C.ld rfl rfl h14' ?_
      refine z_C.go 5 rfl ?_
      have k9 := ih (i + 1) (z_si (z_si v 0 0 13 0) 0 0 14 (iN (p + i) + 1)) ((x <<< ((8 : Int32) &&& 31)) ||| 0) (by omega) (hd.q (((nF1.si (Or.inl rfl)).tr (nF1.si (Or.inr rfl))).q)) (hf.tr ((nF1.si (Or.inl rfl)).tr (nF1.si (Or.inr rfl)))) (by
        rw [show gI b len (p + (i + 1)) = 0 from if_neg (fun h9 => hg ⟨h9.1, by omega⟩)]
        rfl) (by
        show iN (p + i) + 1 = iN (p + (i + 1))
        exact iN_add (p + i) 1) (fun h9 => absurd ⟨h9.1, by omega⟩ hg)
      rw [← iN_add i 1] at k9
      exact k9
theorem m_num {b : Bool} (hd : mD len D v) (h13 : v.1 0 0 13 = iN (gI b len p)) (h14 : v.1 0 0 14 = iN p) (hp : p ≤ 300) (hn : n ≤ 8) (K : ∀ v' x, nF1 v v' → v'.1 0 0 13 = iN (gI b len (p + n)) → v'.1 0 0 14 = iN (p + n) → (b = true ∧ p + n ≤ len → x = iN (numF D p n)) → Q v' (some (zI x))) : mRun kX_number (0, [some (zR 0 0), some (zI (iN n)), none, none], [], v) Q := by
  refine z_C.go 4 rfl ?_
  exact m_num_loop (V0 := v) hp hn K n 0 v 0 (by omega) hd (nF1.rf v) h13 h14 (fun _ => rfl)
theorem m_peek (hd : mD len D v) (h14 : v.1 0 0 14 = iN p) (hp : p ≤ 300) (h1 : p < len → Q v (some (zI (iN (D p))))) (h0 : ¬ p < len → Q v (some (zI (-1)))) : mRun kX_peek (0, [some (zR 0 0)], [], v) Q := by
  have hlen := hd.1
  refine z_C.go 1 rfl ?_
  refine z_C.ld rfl rfl h14 ?_
  refine z_C.go 1 rfl ?_
  refine z_C.ld rfl rfl hd.2.1 ?_
  refine z_C.go 1 rfl ?_
  refine z_C.if (fun h => ?_) (fun h => ?_)
  · have h := (iN_le (by omega) (by omega)).mp h
    refine z_C.go 1 rfl ?_
    exact z_C.ret rfl rfl (h0 (by omega))
  · have hlt : p < len := Nat.lt_of_not_le (fun h9 => h ((iN_le (by omega) (by omega)).mpr h9))
    refine z_C.go 3 rfl ?_
    refine z_C.ld rfl rfl h14 ?_
    have i1 : z_in (iN p) 240 = true := iN_in (by omega) (by omega)
    refine z_C.ld (y := iN (D p)) rfl (if_pos ⟨rfl, i1⟩) (by rw [iN_nat (by omega)]; exact (hd.2.2 p hlt).1) ?_
    refine z_C.go 1 rfl ?_
    exact z_C.ret rfl rfl (h1 hlt)
theorem m_let_loop (hd : mD len D v) (hpn : p + n ≤ len) (h1 : Lt D p n → Q v (some (zI 1))) (h0 : ¬ Lt D p n → Q v (some (zI 0))) : ∀ (d i : Nat), i + d = n → Lt D p i →
    mRun kX_letters (19, [some (zR 0 0), some (zI (iN p)), some (zI (iN n)), some (zI 1), some (zI (iN i))], [], v) Q := by
  have hlen := hd.1
  intro d
  induction d with
  | zero =>
    intro i hi hL
    have e : i = n := by omega
    subst e
    refine z_C.go 3 rfl ?_
    refine z_C.if (fun _ => ?_) (fun h => absurd ((iN_le (by omega) (by omega)).mpr (by omega)) h)
    refine z_C.go 1 rfl ?_
    exact z_C.ret rfl rfl (h1 hL)
  | succ d ih =>
    intro i hi hL
    have hDi := hd.2.2 (p + i) (by omega)
    have e1 : iN p + iN i = iN (p + i) := iN_add p i
    have i1 : z_in (iN p + iN i) 240 = true := by rw [e1]; exact iN_in (by omega) (by omega)
    have n1 : v.1 1 0 (iN p + iN i).toNatClampNeg = iN (D (p + i)) := by rw [e1, iN_nat (by omega)]; exact hDi.1
    -- once a letter is missing, the loop ends
    have bad : ¬ Lt D p n → ∀ y : Int32, mRun kX_letters (19, [some (zR 0 0), some (zI (iN p)), some (zI (iN n)), some (zI 0), some (zI (iN i + 1))], [], v) Q := fun hb y => by
      have ei : iN i + 1 = iN (i + 1) := iN_add i 1
      rw [ei]
      refine z_C.go 3 rfl ?_
      refine z_C.if (fun _ => ?_) (fun _ => ?_)
      · refine z_C.go 1 rfl ?_
        exact z_C.ret rfl rfl (h0 hb)
      · refine z_C.go 2 rfl ?_
        refine z_C.if (fun _ => ?_) (fun h => absurd (by decide) h)
        refine z_C.go 1 rfl ?_
        exact z_C.ret rfl rfl (h0 hb)
    refine z_C.go 3 rfl ?_
    refine z_C.if (fun h => absurd ((iN_le (by omega) (by omega)).mp h) (by omega)) (fun _ => ?_)
    refine z_C.go 2 rfl ?_
    refine z_C.if (fun h => absurd h (by decide)) (fun _ => ?_)
    refine z_C.go 5 rfl ?_
    refine z_C.ld rfl (if_pos ⟨rfl, i1⟩) n1 ?_
    refine z_C.go 2 rfl ?_
    refine z_C.if (fun h => ?_) (fun h => ?_)
    · have h := (iN_le (b := 96) (by omega) (by decide)).mp h
      refine z_C.go 4 rfl ?_
      exact bad (fun h9 => by have := (h9 i (by omega)).1; omega) 0
    · have h97 : ¬ D (p + i) ≤ 96 := fun h9 => h ((iN_le (b := 96) (by omega) (by decide)).mpr h9)
      refine z_C.go 5 rfl ?_
      refine z_C.ld rfl (if_pos ⟨rfl, i1⟩) n1 ?_
      refine z_C.go 2 rfl ?_
      refine z_C.if (fun h => ?_) (fun h => ?_)
      · have h := (iN_le (a := 123) (by decide) (by omega)).mp h
        refine z_C.go 4 rfl ?_
        exact bad (fun h9 => by have := (h9 i (by omega)).2; omega) 0
      · have h122 : ¬ 123 ≤ D (p + i) := fun h9 => h ((iN_le (a := 123) (by decide) (by omega)).mpr h9)
        refine z_C.go 5 rfl ?_
        have k9 := ih (i + 1) (by omega) (fun q hq => by
          by_cases e : q = i
          · rw [e]
            exact ⟨by omega, by omega⟩
          · exact hL q (by omega))
        rw [← iN_add i 1] at k9
        exact k9
theorem m_let (hd : mD len D v) (hp : p ≤ 300) (hn : n ≤ 8) (h1 : p + n ≤ len → Lt D p n → Q v (some (zI 1))) (h0 : ¬ (p + n ≤ len ∧ Lt D p n) → Q v (some (zI 0))) : mRun kX_letters (0, [some (zR 0 0), some (zI (iN p)), some (zI (iN n)), none, none], [], v) Q := by
  have hlen := hd.1
  have e1 : iN p + iN n = iN (p + n) := iN_add p n
  refine z_C.go 4 rfl ?_
  refine z_C.ld rfl rfl hd.2.1 ?_
  refine z_C.go 1 rfl ?_
  refine z_C.if (fun h => ?_) (fun h => ?_)
  · have h : iN len < iN p + iN n := h
    rw [e1, iN_lt (by omega) (by omega)] at h
    have hb : ¬ (p + n ≤ len ∧ Lt D p n) := fun h9 => by omega
    refine z_C.go 4 rfl ?_
    show mRun kX_letters (19, [some (zR 0 0), some (zI (iN p)), some (zI (iN n)), some (zI 0), some (zI 0)], [], v) Q
    refine z_C.go 3 rfl ?_
    refine z_C.if (fun _ => ?_) (fun _ => ?_)
    · refine z_C.go 1 rfl ?_
      exact z_C.ret rfl rfl (h0 hb)
    · refine z_C.go 2 rfl ?_
      refine z_C.if (fun _ => ?_) (fun h => absurd (by decide) h)
      refine z_C.go 1 rfl ?_
      exact z_C.ret rfl rfl (h0 hb)
  · have h : ¬ iN len < iN p + iN n := h
    rw [e1, iN_lt (by omega) (by omega)] at h
    have hpn : p + n ≤ len := by omega
    refine z_C.go 5 rfl ?_
    exact m_let_loop hd hpn (h1 hpn) (fun hb => h0 (fun h9 => hb h9.2)) n 0 (by omega) (fun q hq => by omega)
end RM
/-! words -/
theorem numF_inj {D E : Nat → Nat} {p q : Nat} : ∀ n m, (∀ i, i < n → 1 ≤ D (p + i) ∧ D (p + i) < 256) → (∀ i, i < m → 1 ≤ E (q + i) ∧ E (q + i) < 256) → numF D p n = numF E q m → n = m ∧ ∀ i, i < n → D (p + i) = E (q + i) := by
  intro n
  induction n with
  | zero =>
    intro m _ hE h
    cases m with
    | zero => exact ⟨rfl, fun i hi => by omega⟩
    | succ m =>
      have := hE m (by omega)
      have h : 0 = numF E q m * 256 + E (q + m) := h
      omega
  | succ n ih =>
    intro m hD hE h
    cases m with
    | zero =>
      have := hD n (by omega)
      have h : numF D p n * 256 + D (p + n) = 0 := h
      omega
    | succ m =>
      have a1 := hD n (by omega)
      have a2 := hE m (by omega)
      have h : numF D p n * 256 + D (p + n) = numF E q m * 256 + E (q + m) := h
      obtain ⟨b1, b2⟩ := ih m (fun i hi => hD i (by omega)) (fun i hi => hE i (by omega)) (by omega)
      refine ⟨by omega, fun i hi => ?_⟩
      by_cases e : i = n
      · rw [e]
        have e2 : D (p + n) = E (q + m) := by omega
        rw [e2, b1]
      · exact b2 i (by omega)
theorem numF_cg {D E : Nat → Nat} {p q : Nat} : ∀ n, (∀ i, i < n → D (p + i) = E (q + i)) → numF D p n = numF E q n := by
  intro n
  induction n with
  | zero => intro _; rfl
  | succ n ih =>
    intro h
    show numF D p n * 256 + D (p + n) = numF E q n * 256 + E (q + n)
    rw [ih (fun i hi => h i (by omega)), h n (by omega)]
theorem Lt_1 {D : Nat → Nat} {p k : Nat} (h : Lt D p k) : ∀ i, i < k → 1 ≤ D (p + i) ∧ D (p + i) < 256 := fun i hi => by have := h i hi; omega
def w5 (word : Int64) (k : Nat) : Int32 := ((word >>> ((5 * iN k).toInt64 &&& 63)) &&& 31).toInt32
theorem m_spl_loop {len p n : Nat} {D : Nat → Nat} {v : z_W} {z : Int32} {word : Int64} {Q : z_W → Option z_V → Prop} (hd : mD len D v) (hpn : p + n ≤ len) (h1 : (∀ k, k < n → iN (D (p + k)) - 96 = w5 word k) → Q v (some (zI 1))) (h0 : ¬ (∀ k, k < n → iN (D (p + k)) - 96 = w5 word k) → Q v (some (zI 0))) : ∀ (d i : Nat), i + d = n → (∀ k, k < i → iN (D (p + k)) - 96 = w5 word k) →
    mRun kX_spells (15, [some (zR 0 0), some (zI (iN p)), some (zI (iN n)), some (zI z), some (zL word), none, some (zI 1), some (zI (iN i))], [], v) Q := by
  have hlen := hd.1
  intro d
  induction d with
  | zero =>
    intro i hi hL
    have e : i = n := by omega
    subst e
    refine z_C.go 3 rfl ?_
    refine z_C.if (fun _ => ?_) (fun h => absurd ((iN_le (by omega) (by omega)).mpr (by omega)) h)
    refine z_C.go 1 rfl ?_
    exact z_C.ret rfl rfl (h1 hL)
  | succ d ih =>
    intro i hi hL
    have hDi := hd.2.2 (p + i) (by omega)
    have e1 : iN p + iN i = iN (p + i) := iN_add p i
    have i1 : z_in (iN p + iN i) 240 = true := by rw [e1]; exact iN_in (by omega) (by omega)
    have n1 : v.1 1 0 (iN p + iN i).toNatClampNeg = iN (D (p + i)) := by rw [e1, iN_nat (by omega)]; exact hDi.1
    refine z_C.go 3 rfl ?_
    refine z_C.if (fun h => absurd ((iN_le (by omega) (by omega)).mp h) (by omega)) (fun _ => ?_)
    refine z_C.go 2 rfl ?_
    refine z_C.if (fun h => absurd h (by decide)) (fun _ => ?_)
    refine z_C.go 5 rfl ?_
    refine z_C.ld rfl (if_pos ⟨rfl, i1⟩) n1 ?_
    refine z_C.go 11 rfl ?_
    refine z_C.if (fun h => ?_) (fun h => ?_)
    · have h : iN (D (p + i)) - 96 = w5 word i := h
      refine z_C.go 5 rfl ?_
      have k9 := ih (i + 1) (by omega) (fun q hq => by
        by_cases e : q = i
        · rw [e]
          exact h
        · exact hL q (by omega))
      rw [← iN_add i 1] at k9
      exact k9
    · have h : ¬ iN (D (p + i)) - 96 = w5 word i := h
      have hb : ¬ (∀ k, k < n → iN (D (p + k)) - 96 = w5 word k) := fun h9 => h (h9 i (by omega))
      refine z_C.go 4 rfl ?_
      show mRun kX_spells (15, [some (zR 0 0), some (zI (iN p)), some (zI (iN n)), some (zI z), some (zL word), none, some (zI 0), some (zI (iN i + 1))], [], v) Q
      refine z_C.go 3 rfl ?_
      refine z_C.if (fun _ => ?_) (fun _ => ?_)
      · refine z_C.go 1 rfl ?_
        exact z_C.ret rfl rfl (h0 hb)
      · refine z_C.go 2 rfl ?_
        refine z_C.if (fun _ => ?_) (fun h => absurd (by decide) h)
        refine z_C.go 1 rfl ?_
        exact z_C.ret rfl rfl (h0 hb)
/-- a word is spelled just where its letters make its number -/
theorem m_spl {len p n m : Nat} {D : Nat → Nat} {c : Nat → Nat} {v : z_W} {word : Int64} {Q : z_W → Option z_V → Prop} (hd : mD len D v) (hpn : p + n ≤ len) (hn : n ≤ 8) (hL : Lt D p n) (hm : m ≤ 8) (hc : ∀ k, k < m → w5 word k = iN (c k) ∧ 1 ≤ c k ∧ c k ≤ 26)
    (h1 : numF D p n = numF (fun k => 96 + c k) 0 m → Q v (some (zI 1))) (h0 : ¬ numF D p n = numF (fun k => 96 + c k) 0 m → Q v (some (zI 0))) : mRun kX_spells (0, [some (zR 0 0), some (zI (iN p)), some (zI (iN n)), some (zI (iN m)), some (zL word), none, none, none], [], v) Q := by
  have key : numF D p n = numF (fun k => 96 + c k) 0 m ↔ n = m ∧ ∀ k, k < n → iN (D (p + k)) - 96 = w5 word k := by
    constructor
    · intro h
      obtain ⟨a1, a2⟩ := numF_inj n m (Lt_1 hL) (fun i hi => by have := hc i hi; show 1 ≤ 96 + c (0 + i) ∧ 96 + c (0 + i) < 256; rw [Nat.zero_add]; omega) h
      refine ⟨a1, fun k hk => ?_⟩
      have e := a2 k hk
      have e : D (p + k) = 96 + c (0 + k) := e
      rw [Nat.zero_add] at e
      rw [e, (hc k (by omega)).1]
      have : iN (96 + c k) - iN 96 = iN (96 + c k - 96) := iN_sub (by omega)
      rw [Nat.add_sub_cancel_left] at this
      exact this
    · intro h
      obtain ⟨rfl, a2⟩ := h
      refine numF_cg n (fun i hi => ?_)
      have a3 := a2 i hi
      have a4 := hc i hi
      have a5 := hL i hi
      rw [a4.1, show iN (D (p + i)) - 96 = iN (D (p + i) - 96) from iN_sub (b := 96) (by omega), iN_inj (by omega) (by omega)] at a3
      show D (p + i) = 96 + c (0 + i)
      rw [Nat.zero_add]
      omega
  refine z_C.go 3 rfl ?_
  refine z_C.if (fun h => ?_) (fun h => ?_)
  · have h : n = m := (iN_inj (by omega) (by omega)).mp h
    refine z_C.go 5 rfl ?_
    exact m_spl_loop hd hpn (fun h9 => h1 (key.mpr ⟨h, h9⟩)) (fun h9 => h0 (fun h8 => h9 (key.mp h8).2)) n 0 (by omega) (fun k hk => by omega)
  · have h : ¬ n = m := fun h9 => h ((iN_inj (by omega) (by omega)).mpr h9)
    have hb : ¬ numF D p n = numF (fun k => 96 + c k) 0 m := fun h9 => h (key.mp h9).1
    refine z_C.go 4 rfl ?_
    show mRun kX_spells (15, [some (zR 0 0), some (zI (iN p)), some (zI (iN n)), some (zI (iN m)), some (zL word), none, some (zI 0), some (zI 0)], [], v) Q
    refine z_C.go 3 rfl ?_
    refine z_C.if (fun _ => ?_) (fun _ => ?_)
    · refine z_C.go 1 rfl ?_
      exact z_C.ret rfl rfl (h0 hb)
    · refine z_C.go 2 rfl ?_
      refine z_C.if (fun _ => ?_) (fun h => absurd (by decide) h)
      refine z_C.go 1 rfl ?_
      exact z_C.ret rfl rfl (h0 hb)
