/-! a request: the class -/
def rOp (D : Nat → Nat) (len : Nat) : Nat := if 3 < len then 256 * D 2 + D 3 else 0
def rId (D : Nat → Nat) (len : Nat) : Int32 := if 8 ≤ len then iN (numF D 4 4) else 0
section RC
variable {len n s : Nat} {D : Nat → Nat} {A : Nat → Nat → Nat} {o : Option (List Nat × Option (List Nat) × Nat)} {po : Option (Nat × (Nat → Nat))} {w : z_W} {Q : z_W → Option z_V → Prop}
theorem rOp_8 (h : 8 < len) : numF D 2 2 = rOp D len := by
  unfold rOp
  rw [if_pos (by omega)]
  show (0 * 256 + D 2) * 256 + D 3 = 256 * D 2 + D 3
  omega
theorem rOp_lt (hb : ∀ k, k < len → D k < 256) : rOp D len < 65536 := by
  unfold rOp
  split
  · have h2 := hb 2 (by omega)
    have h3 := hb 3 (by omega)
    omega
  · decide
theorem c_req (hu : w.1 11 0 2 = 1) (hd : cD len D w) (hpar : parR D len o) (hpo : ∀ G1 g2 d, o = some (G1, g2, d) → pgsR D len 240 d 0 (fun _ => 0) po)
    (hr : cLv n A w) (hnum : ∀ k, k < n → w.1 9 (w.2.2 13 0 k) 1 = iN (A k 1)) (hrf : ∀ k, k < 20 → w.2.2 13 0 k < 20) (hlv : nLive A n ≤ 90)
    (K : ∀ w2, rqF w w2 → w2.1 3 0 9 = rId D len → (o.isSome = true → w2.1 3 0 8 = iN (rOp D len)) → (∀ G1 g2 d, o = some (G1, g2, d) → cNam D len G1 (g2.getD []) w2 ∧ ∀ q ∈ G1 ++ g2.getD [], aGood D len q) → (stS D len n A o po (rOp D len) = 0 → rOp D len = 2 → ∀ G1 g2 d S pg Y, o = some (G1, g2, d) → setL D (g2.getD []) (some dS) = some S → po = some (pg, Y) → cPr S pg Y w2) → cRun kP_request (15, [some (zR 0 0), none, none], [zI (iN (stS D len n A o po (rOp D len)))], w2) Q) :
    cRun kP_request (0, [some (zR 0 0), none, none], [], w) Q := by
  have hb : ∀ k, k < len → D k < 256 := fun k hk => (hd.2.2 k hk).2
  refine z_C.go 1 rfl ?_
  refine z_C.call rfl rfl (zC_up (C' := zC) (k_refuse (Q := fun w' r => w' = w ∧ r = none) hu ⟨rfl, rfl⟩)) (fun w' r h => ?_)
  obtain ⟨rfl, rfl⟩ := h
  refine z_C.go 2 rfl ?_
  refine z_C.call rfl rfl (e_read (Q := fun w1 r => r = none ∧ mG w' w1 ∧ w1.1 3 0 7 = iN (if o.isSome = true then 1 else 0) ∧ w1.1 3 0 8 = (if 8 ≤ len then iN (numF D 2 2) else -1) ∧ w1.1 3 0 9 = (if 8 ≤ len then iN (numF D 4 4) else 0) ∧ cMs D len o w1) hpar hd (fun w1 a b c d e => ⟨rfl, a, b, c, d, e⟩)) (fun w1 r h => ?_)
  obtain ⟨rfl, f1, g7, g8, g9, gM⟩ := h
  have hd1 := hd.mG f1
  have h8 : o.isSome = true → w1.1 3 0 8 = iN (rOp D len) := fun ho => by
    cases o with
    | none => cases ho
    | some x =>
      obtain ⟨G1, g2, d⟩ := x
      have h8 := (parR_some hpar).1
      rw [g8, if_pos (by omega), rOp_8 h8]
  have er : w1.2.2 = w'.2.2 := f1.1
  have fr9 : ∀ i f, w1.1 9 i f = w'.1 9 i f := fun i f => f1.2 9 i f (by omega) (by omega) (by omega)
  have hr1 : cLv n A w1 := ⟨⟨hr.1.1, (f1.2 12 0 2 (by omega) (by omega) (by omega)).trans hr.1.2⟩, fun k hk => by rw [er, fr9, fr9]; exact hr.2 k hk⟩
  refine z_C.go 1 rfl ?_
  refine z_C.call rfl rfl (e_stat (w := w1) (op := rOp D len) (Q := fun w2 r => r = some (zI (iN (stS D len n A o po (rOp D len)))) ∧ stF w1 w2 ∧ (stS D len n A o po (rOp D len) = 0 → rOp D len = 2 → ∀ G1 g2 d S pg Y, o = some (G1, g2, d) → setL D (g2.getD []) (some dS) = some S → po = some (pg, Y) → cPr S pg Y w2)) hd1 hpar gM g7 h8 (rOp_lt hb) hpo hr1 (fun k hk => by rw [er, fr9]; exact hnum k hk) (by rw [er]; exact hrf) hlv (fun w2 a b => ⟨rfl, a, b⟩)) (fun w2 r h => ?_)
  obtain ⟨rfl, f2, p2⟩ := h
  have k3 : ∀ k, w2.1 3 0 k = w1.1 3 0 k := fun k => f2.2 3 0 k (by omega) (by omega) (by omega) (by omega)
  refine K w2 (rqF.of f1 f2) ((k3 9).trans g9) (fun ho => (k3 8).trans (h8 ho)) (fun G1 g2 d ho => ⟨?_, ?_⟩) p2
  · subst ho
    exact (gM.nam hd1 hpar).fr (by rw [f2.1]) (fun i k => f2.2 3 i k (by omega) (by omega) (by omega) (by omega)) (fun k => f2.2 4 0 k (by omega) (by omega) (by omega) (by omega))
  · exact (gM G1 g2 d ho).2.2.2.2.1
theorem c_tail (hwr : cRun kP_writeReply (0, [some (zR 0 0), some (zI (iN s))], [], w) (fun w' r => r = none ∧ Q (bClr 0 w') (some (zI (iN s))))) : cRun kP_request (27, [some (zR 0 0), some (zI (iN s)), none], [], w) Q := by
  refine z_C.go 5 rfl ?_
  refine z_C.if (fun h => absurd h (by decide)) (fun _ => ?_)
  refine z_C.go 2 rfl ?_
  refine z_C.call rfl rfl hwr (fun w1 r h => ?_)
  obtain ⟨rfl, hq⟩ := h
  refine z_C.go 2 rfl ?_
  refine z_C.call rfl rfl (e_clear (b := 0) (Q := fun w' r => r = none ∧ w' = bClr 0 w1) ⟨rfl, rfl⟩) (fun w2 r h => ?_)
  obtain ⟨rfl, rfl⟩ := h
  refine z_C.go 2 rfl ?_
  refine z_C.if (fun h => absurd h (by decide)) (fun _ => ?_)
  refine z_C.go 2 rfl ?_
  exact z_C.ret rfl rfl hq
theorem c_tN (hs : ¬ s = 0) (hs2 : s < 65536) (hwr : cRun kP_writeReply (0, [some (zR 0 0), some (zI (iN s))], [], w) (fun w' r => r = none ∧ Q (bClr 0 w') (some (zI (iN s))))) : cRun kP_request (15, [some (zR 0 0), none, none], [zI (iN s)], w) Q := by
  refine z_C.go 3 rfl ?_
  refine z_C.if (fun h => absurd ((iN_inj (b := 0) (by omega) (by decide)).mp h) hs) (fun _ => ?_)
  exact c_tail hwr
theorem c_tY (hco : cRun kP_carryOut (0, [some (zR 0 0), none, none], [], w) (fun w3 r => (r = some (zI 1) ∧ cRun kP_writeReply (0, [some (zR 0 0), some (zI (iN 0))], [], w3) (fun w' r => r = none ∧ Q (bClr 0 w') (some (zI (iN 0))))) ∨ (r = some (zI 0) ∧ Q (bClr 1 (bClr 0 w3)) (some (zI (-1)))))) : cRun kP_request (15, [some (zR 0 0), none, none], [zI (iN 0)], w) Q := by
  refine z_C.go 3 rfl ?_
  refine z_C.if (fun _ => ?_) (fun h => absurd rfl h)
  refine z_C.go 1 rfl ?_
  refine z_C.call rfl rfl hco (fun w3 r h => ?_)
  rcases h with ⟨rfl, hwr⟩ | ⟨rfl, hq⟩
  · refine z_C.go 1 rfl ?_
    refine z_C.if (fun h => absurd h (by decide)) (fun _ => ?_)
    exact c_tail hwr
  · refine z_C.go 1 rfl ?_
    refine z_C.if (fun _ => ?_) (fun h => absurd rfl h)
    refine z_C.go 4 rfl ?_
    refine z_C.if (fun _ => ?_) (fun h => absurd rfl h)
    refine z_C.go 2 rfl ?_
    refine z_C.call rfl rfl (e_clear (b := 0) (Q := fun w' r => r = none ∧ w' = bClr 0 w3) ⟨rfl, rfl⟩) (fun w4 r h => ?_)
    obtain ⟨rfl, rfl⟩ := h
    refine z_C.go 2 rfl ?_
    refine z_C.if (fun _ => ?_) (fun h => absurd rfl h)
    refine z_C.go 1 rfl ?_
    refine z_C.call rfl rfl (e_goneDown (w := bClr 0 w3) (Q := fun w' r => r = some (zI (-1)) ∧ w' = bClr 1 (bClr 0 w3)) ⟨rfl, rfl⟩) (fun w5 r h => ?_)
    obtain ⟨rfl, rfl⟩ := h
    exact z_C.ret rfl rfl hq
end RC
/-! a request: the reference -/
section RR
variable {len n s op : Nat} {id : Int32} {D : Nat → Nat} {A : Nat → Nat → Nat} {o : Option (List Nat × Option (List Nat) × Nat)} {po : Option (Nat × (Nat → Nat))} {v : z_W} {Q : z_W → Option z_V → Prop}
theorem m_reqD (hu : v.1 0 0 1 = 1) (hq : Q (m_thr 1 v) (some (zI 0))) : mRun kX_request (0, [some (zR 0 0), none, none, none, none], [], v) Q := by
  refine z_C.go 2 rfl ?_
  refine z_C.ld rfl rfl hu ?_
  refine z_C.go 1 rfl ?_
  refine z_C.if (fun h => absurd h (by decide)) (fun _ => ?_)
  refine z_C.go 4 rfl ?_
  refine z_C.ld rfl rfl (y := 1) hu ?_
  refine z_C.go 1 rfl ?_
  refine z_C.if (fun h => absurd h (by decide)) (fun _ => ?_)
  refine z_C.go 1 rfl ?_
  exact z_C.ret rfl rfl hq
theorem m_id (hd : mD len D v) (K : mRun kX_request (96, [some (zR 0 0), some (zI (iN op)), some (zI (rId D len)), some (zI (iN 8)), none], [], v) Q) :
    ∀ (d i : Nat), i + d = 4 → mRun kX_request (59, [some (zR 0 0), some (zI (iN op)), some (zI (if 8 ≤ len then iN (numF D 4 i) else 0)), some (zI (iN (4 + i))), none], [], v) Q := by
  have hlen := hd.1
  intro d
  induction d with
  | zero =>
    intro i hi
    have e : i = 4 := by omega
    subst e
    refine z_C.go 3 rfl ?_
    refine z_C.if (fun _ => ?_) (fun h => absurd (by decide) h)
    exact K
  | succ d ih =>
    intro i hi
    have k9 := ih (i + 1) (by omega)
    rw [show 4 + (i + 1) = 4 + i + 1 by omega, ← iN_add (4 + i) 1] at k9
    refine z_C.go 3 rfl ?_
    refine z_C.if (fun h => absurd ((iN_le (a := 8) (by decide) (by omega)).mp h) (by omega)) (fun _ => ?_)
    refine z_C.go 4 rfl ?_
    refine z_C.ld rfl rfl hd.2.1 ?_
    refine z_C.go 2 rfl ?_
    refine z_C.if (fun h => ?_) (fun h => ?_)
    · have h := (iN_le (b := 7) (by omega) (by decide)).mp h
      rw [if_neg (by omega)] at k9
      rw [if_neg (by omega)]
      have e0 : ((0 : Int32) <<< ((8 : Int32) &&& 31)) ||| 0 = 0 := by decide
      rw [← e0] at k9
      refine z_C.go 5 rfl ?_
      exact k9
    · have h8 : 8 ≤ len := Nat.lt_of_not_le (fun h9 => h ((iN_le (b := 7) (by omega) (by decide)).mpr h9))
      obtain ⟨b1, b2⟩ := hd.2.2 (4 + i) (by omega)
      rw [if_pos h8] at k9
      rw [if_pos h8]
      have e1 : numF D 4 (i + 1) = numF D 4 i * 256 + D (4 + i) := rfl
      rw [e1, ← shl_or32 b2] at k9
      have i1 : z_in (iN (4 + i)) 240 = true := iN_in (by omega) (by decide)
      have vv : v.1 1 0 (iN (4 + i)).toNatClampNeg = iN (D (4 + i)) := by rw [iN_nat (by omega)]; exact b1
      refine z_C.go 3 rfl ?_
      refine z_C.ld rfl (if_pos ⟨rfl, i1⟩) vv ?_
      refine z_C.go 5 rfl ?_
      exact k9
theorem m_req (hu : v.1 0 0 1 = 0) (hd : mD len D v) (hpar : parR D len o) (hgd : ∀ G1 g2 d, o = some (G1, g2, d) → ∀ q ∈ G1 ++ g2.getD [], aGood D len q) (hpo : ∀ G1 g2 d, o = some (G1, g2, d) → pgsR D len 240 d 0 (fun _ => 0) po)
    (hr : mLv n A v) (hnum : ∀ k, k < n → v.1 2 0 (10 * k) = iN (A k 1)) (hlv : nLive A n ≤ 90)
    (K : ∀ v1, qF (m_thr 0 v) v1 → (stS D len n A o po (rOp D len) = 0 → rOp D len = 2 → ∀ G1 g2 d S pg Y, o = some (G1, g2, d) → setL D (g2.getD []) (some dS) = some S → po = some (pg, Y) → mPr S pg Y v1) → (stS D len n A o po (rOp D len) = 0 → (rOp D len = 8 ∨ rOp D len = 9 ∨ rOp D len = 12 ∨ rOp D len = 13) → ∀ G1 g2 d q, o = some (G1, g2, d) → jQ D G1 = some q → v1.1 0 0 17 = iN (aX D q)) → mRun kX_request (107, [some (zR 0 0), some (zI (iN (rOp D len))), some (zI (rId D len)), some (zI (iN (stS D len n A o po (rOp D len)))), none], [], z_si v1 0 0 2 0) Q) :
    mRun kX_request (0, [some (zR 0 0), none, none, none, none], [], v) Q := by
  have hlen := hd.1
  have hb : ∀ k, k < len → D k < 256 := fun k hk => (hd.2.2 k hk).2
  have hd0 : mD len D (m_thr 0 v) := hd
  refine z_C.go 2 rfl ?_
  refine z_C.ld rfl rfl hu ?_
  refine z_C.go 1 rfl ?_
  refine z_C.if (fun _ => ?_) (fun h => absurd rfl h)
  refine z_C.go 3 rfl ?_
  refine z_C.ld rfl rfl (y := 0) hu ?_
  refine z_C.go 1 rfl ?_
  refine z_C.if (fun _ => ?_) (fun h => absurd rfl h)
  show mRun kX_request (25, [some (zR 0 0), none, none, none, none], [], m_thr 0 v) Q
  have rest : mRun kX_request (54, [some (zR 0 0), none, none, none, none], [zI (iN (rOp D len))], m_thr 0 v) Q := by
    refine z_C.go 5 rfl ?_
    have k9 := m_id (op := rOp D len) (Q := Q) hd0 ?_ 4 0 rfl
    · have e0 : (if 8 ≤ len then iN (numF D 4 0) else 0) = 0 := by split <;> rfl
      rw [e0] at k9
      exact k9
    · refine z_C.go 2 rfl ?_
      refine z_C.call rfl rfl (m_stat (v := m_thr 0 v) (n := n) (A := A) (o := o) (po := po) (op := rOp D len) (Q := fun v1 r => r = some (zI (iN (stS D len n A o po (rOp D len)))) ∧ qF (m_thr 0 v) v1 ∧ (stS D len n A o po (rOp D len) = 0 → rOp D len = 2 → ∀ G1 g2 d S pg Y, o = some (G1, g2, d) → setL D (g2.getD []) (some dS) = some S → po = some (pg, Y) → mPr S pg Y v1) ∧ (stS D len n A o po (rOp D len) = 0 → (rOp D len = 8 ∨ rOp D len = 9 ∨ rOp D len = 12 ∨ rOp D len = 13) → ∀ G1 g2 d q, o = some (G1, g2, d) → jQ D G1 = some q → v1.1 0 0 17 = iN (aX D q))) hd0 hpar (rOp_lt hb) hgd hpo hr hnum hlv (fun v1 a b c => ⟨rfl, a, b, c⟩)) (fun v1 r h => ?_)
      obtain ⟨rfl, f1, p1, p2⟩ := h
      refine z_C.go 4 rfl ?_
      exact K v1 f1 p1 p2
  refine z_C.go 1 rfl ?_
  refine z_C.ld rfl rfl hd0.2.1 ?_
  refine z_C.go 2 rfl ?_
  refine z_C.if (fun h => ?_) (fun h => ?_)
  · have h := (iN_le (b := 3) (by omega) (by decide)).mp h
    have e : rOp D len = 0 := if_neg (by omega)
    rw [e] at rest
    refine z_C.go 1 rfl ?_
    exact rest
  · have h3 : 3 < len := Nat.lt_of_not_le (fun h9 => h ((iN_le (b := 3) (by omega) (by decide)).mpr h9))
    have e : 256 * iN (D 2) + iN (D 3) = iN (rOp D len) := by
      rw [show (256 : Int32) * iN (D 2) = iN (256 * D 2) from iN_mul 256 (D 2), iN_add]
      unfold rOp
      rw [if_pos h3]
    refine z_C.go 4 rfl ?_
    refine z_C.ld rfl rfl (hd0.2.2 2 (by omega)).1 ?_
    refine z_C.go 4 rfl ?_
    refine z_C.ld rfl rfl (hd0.2.2 3 (by omega)).1 ?_
    refine z_C.go 2 rfl ?_
    rw [e]
    exact rest
theorem m_tN (hs : ¬ s = 0) (hs2 : s < 65536) (hq : mRun kX_request (130, [some (zR 0 0), some (zI (iN op)), some (zI id), some (zI (iN s)), some (zI 0)], [], v) Q) : mRun kX_request (107, [some (zR 0 0), some (zI (iN op)), some (zI id), some (zI (iN s)), none], [], v) Q := by
  refine z_C.go 2 rfl ?_
  refine z_C.if (fun h => absurd ((iN_inj (b := 0) (by omega) (by decide)).mp h) hs) (fun _ => ?_)
  refine z_C.go 5 rfl ?_
  refine z_C.if (fun h => absurd h (by decide)) (fun _ => ?_)
  exact hq
theorem m_tY (hdo : mRun kX_does (0, [some (zR 0 0), some (zI (iN op)), none], [], v) (fun v3 r => (∃ x, r = some (zI x) ∧ ¬ x = -1 ∧ mRun kX_request (130, [some (zR 0 0), some (zI (iN op)), some (zI id), some (zI (iN 0)), some (zI x)], [], v3) Q) ∨ (r = some (zI (-1)) ∧ Q v3 (some (zI (-1)))))) : mRun kX_request (107, [some (zR 0 0), some (zI (iN op)), some (zI id), some (zI (iN 0)), none], [], v) Q := by
  refine z_C.go 2 rfl ?_
  refine z_C.if (fun _ => ?_) (fun h => absurd rfl h)
  refine z_C.go 2 rfl ?_
  refine z_C.call rfl rfl hdo (fun v3 r h => ?_)
  rcases h with ⟨x, rfl, hx, hq⟩ | ⟨rfl, hq⟩
  · refine z_C.go 5 rfl ?_
    refine z_C.if (fun h => absurd h hx) (fun _ => ?_)
    exact hq
  · refine z_C.go 5 rfl ?_
    refine z_C.if (fun _ => ?_) (fun h => absurd rfl h)
    refine z_C.go 1 rfl ?_
    exact z_C.ret rfl rfl hq
end RR
