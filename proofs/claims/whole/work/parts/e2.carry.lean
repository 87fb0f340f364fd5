/-! what is carried out, but for a PRINT -/
def stA (op : Nat) : Nat := if op = 8 then 7 else if op = 12 then 4 else 3
section CC
variable {len n op : Nat} {D : Nat → Nat} {A : Nat → Nat → Nat} {G L : List Nat} {w : z_W} {Q : z_W → Option z_V → Prop}
theorem k_jobAny (hc : cNam D len G L w) (h1 : ∀ x, Q w (some (zI x))) : z_C sC zM zCr kM_jobNumber (0, [some (zR 3 0), none], [], w) Q := by
  cases hq : jQ D G with
  | some q => exact k_jobNo hc (jQ_some hq).1 (jQ_some hq).2 (h1 _)
  | none =>
    refine z_C.go 1 rfl ?_
    refine z_C.call (Q' := fun w' r => w' = w ∧ r = some (zI (-1))) rfl rfl ?_ (fun w' r h => ?_)
    · refine z_C.go 2 rfl ?_
      exact k_jobA hc.1 hc.2.1 hc.2.2.1 hc.2.2.2.1 hc.2.2.2.2.2 (fun i q' hi hq' hj' => absurd hj' (jQ_none hq q' (List.mem_of_getElem? hq'))) (fun _ => ⟨rfl, rfl⟩) G.length 0 (by omega) (fun j q h => by omega)
    · obtain ⟨rfl, rfl⟩ := h
      refine z_C.go 4 rfl ?_
      refine z_C.if (fun _ => ?_) (fun h => absurd rfl h)
      refine z_C.go 2 rfl ?_
      exact z_C.ret rfl rfl (h1 0)
theorem k_after {x : Int32} (hop : (op = 8 ∨ op = 12 ∨ op = 13) ∧ x = iN (stA op) ∨ (op = 9 ∨ op = 10) ∧ x = -1) (hq : Q w (some (zI x))) : z_C sC zM zCr kP_stateAfter (0, [some (zI (iN op))], [], w) Q := by
  rcases hop with ⟨rfl | rfl | rfl, rfl⟩ | ⟨rfl | rfl, rfl⟩
  · refine z_C.go 3 rfl ?_
    exact z_C.ret rfl rfl hq
  · refine z_C.go 3 rfl ?_
    exact z_C.ret rfl rfl hq
  · refine z_C.go 3 rfl ?_
    exact z_C.ret rfl rfl hq
  · refine z_C.go 3 rfl ?_
    exact z_C.ret rfl rfl hq
  · refine z_C.go 3 rfl ?_
    exact z_C.ret rfl rfl hq
theorem e_carryN (hc : cNam D len G L w) (hop : op = 9 ∨ op = 10) (h8 : w.1 3 0 8 = iN op) (hn : n ≤ 20) (h12 : w.1 12 0 2 = iN n) (hq : Q w (some (zI 1))) : cRun kP_carryOut (0, [some (zR 0 0), none, none], [], w) Q := by
  refine z_C.go 2 rfl ?_
  refine z_C.ld rfl rfl h8 ?_
  refine z_C.go 2 rfl ?_
  refine z_C.if (fun h => absurd ((iN_inj (b := 2) (by omega) (by decide)).mp h) (by omega)) (fun _ => ?_)
  refine z_C.go 2 rfl ?_
  refine z_C.ld rfl rfl h8 ?_
  refine z_C.call rfl rfl (zC_up (C' := zC) (k_after (op := op) (x := -1) (Q := fun w' r => w' = w ∧ r = some (zI (-1))) (Or.inr ⟨hop, rfl⟩) ⟨rfl, rfl⟩)) (fun w1 r h => ?_)
  obtain ⟨rfl, rfl⟩ := h
  refine z_C.go 5 rfl ?_
  refine z_C.call rfl rfl (zC_up (C' := zC) (k_jobAny (Q := fun w' r => w' = w1 ∧ ∃ x, r = some (zI x)) hc (fun x => ⟨rfl, x, rfl⟩))) (fun w2 r h => ?_)
  obtain ⟨rfl, x, rfl⟩ := h
  refine z_C.call rfl rfl (zC_up (C' := zC) (k_find (x := x) (Q := fun w' r => w' = w2 ∧ r = some (refJ w2 (fndF (fun j => cJ w2 j 1) x n 0))) h12 hn ⟨rfl, rfl⟩)) (fun w3 r h => ?_)
  obtain ⟨rfl, rfl⟩ := h
  refine z_C.go 4 rfl ?_
  refine z_C.if (fun _ => ?_) (fun h => absurd rfl h)
  refine z_C.go 2 rfl ?_
  exact z_C.ret rfl rfl hq
theorem e_carryC {lg k q : Nat} {st : Option Nat} (hc : cNam D len G L w) (hqG : q ∈ G) (hj : jA D q) (hop : op = 8 ∨ op = 12 ∨ op = 13) (h8 : w.1 3 0 8 = iN op) (hf : fndF (fun k => iN (A k 1)) (iN (aX D q)) n 0 = some k) (hnum : ∀ k, k < n → w.1 9 (w.2.2 13 0 k) 1 = iN (A k 1))
    (hlg : lg ≤ 40) (h1 : w.1 11 0 1 = iN lg) (hr : cLv n A w) (hlv : nLive A n ≤ 90) (h5 : ∀ k, k < 20 → w.2.2 13 0 k < 20) (h6 : ∀ k l, k < 20 → l < 20 → w.2.2 13 0 k = w.2.2 13 0 l → k = l) (hs : stopIs st (w.1 11 0 3))
    (K1 : ∀ w', cT (aT 1 lg (nLive A n) st) n A w w' → (aT 1 lg (nLive A n) st).1 = true → Q (z_si w' 9 (w.2.2 13 0 k) 2 (iN (stA op))) (some (zI 1))) (K0 : ∀ w', cT (aT 1 lg (nLive A n) st) n A w w' → ¬ (aT 1 lg (nLive A n) st).1 = true → Q w' (some (zI 0))) :
    cRun kP_carryOut (0, [some (zR 0 0), none, none], [], w) Q := by
  refine z_C.go 2 rfl ?_
  refine z_C.ld rfl rfl h8 ?_
  refine z_C.go 2 rfl ?_
  refine z_C.if (fun h => absurd ((iN_inj (b := 2) (by omega) (by decide)).mp h) (by omega)) (fun _ => ?_)
  refine z_C.go 2 rfl ?_
  refine z_C.ld rfl rfl h8 ?_
  refine z_C.call rfl rfl (zC_up (C' := zC) (k_after (op := op) (x := iN (stA op)) (Q := fun w' r => w' = w ∧ r = some (zI (iN (stA op)))) (Or.inl ⟨hop, rfl⟩) ⟨rfl, rfl⟩)) (fun w1 r h => ?_)
  obtain ⟨rfl, rfl⟩ := h
  refine z_C.go 5 rfl ?_
  refine z_C.call rfl rfl (zC_up (C' := zC) (k_jobNo (Q := fun w' r => w' = w1 ∧ r = some (zI (iN (aX D q)))) hc hqG hj ⟨rfl, rfl⟩)) (fun w2 r h => ?_)
  obtain ⟨rfl, rfl⟩ := h
  have ef : fndF (fun j => cJ w2 j 1) (iN (aX D q)) n 0 = some k := by
    rw [← hf]
    exact fndF_congr n 0 (fun j _ hj => hnum j (by omega))
  refine z_C.call rfl rfl (zC_up (C' := zC) (k_find (x := iN (aX D q)) (Q := fun w' r => w' = w2 ∧ r = some (zR 9 (w2.2.2 13 0 k))) hr.1.2 hr.1.1 ⟨rfl, by rw [ef]; rfl⟩)) (fun w3 r h => ?_)
  obtain ⟨rfl, rfl⟩ := h
  have hst : stA op ≤ 7 := by unfold stA; split <;> (try split) <;> omega
  refine z_C.go 4 rfl ?_
  refine z_C.if (fun h => absurd h (fun h9 => by
    have := idx_ng (show stA op < 2147483648 by omega)
    have h9 : iN (stA op) = -1 := h9
    rw [h9] at this
    exact this (by decide))) (fun _ => ?_)
  refine z_C.go 6 rfl ?_
  by_cases ht : (aT 1 lg (nLive A n) st).1 = true
  · refine z_C.call rfl rfl (e_changeState (n := n) (A := A) (r := w3.2.2 13 0 k) (x := iN (stA op)) (Q := fun w' r => r = some (zI 1) ∧ ∃ w1, cT (aT 1 lg (nLive A n) st) n A w3 w1 ∧ w' = z_si w1 9 (w3.2.2 13 0 k) 2 (iN (stA op))) hlg h1 hr hlv h5 h6 hs (fun w1 h _ => ⟨rfl, w1, h, rfl⟩) (fun w1 _ h => absurd ht h)) (fun w4 r h => ?_)
    obtain ⟨rfl, w1, hT, rfl⟩ := h
    refine z_C.go 1 rfl ?_
    refine z_C.if (fun h => absurd h (by decide)) (fun _ => ?_)
    refine z_C.go 2 rfl ?_
    exact z_C.ret rfl rfl (K1 w1 hT ht)
  · refine z_C.call rfl rfl (e_changeState (n := n) (A := A) (r := w3.2.2 13 0 k) (x := iN (stA op)) (Q := fun w' r => r = some (zI 0) ∧ cT (aT 1 lg (nLive A n) st) n A w3 w') hlg h1 hr hlv h5 h6 hs (fun w1 _ h => absurd h ht) (fun w1 h _ => ⟨rfl, h⟩)) (fun w4 r h => ?_)
    obtain ⟨rfl, hT⟩ := h
    refine z_C.go 1 rfl ?_
    refine z_C.if (fun _ => ?_) (fun h => absurd rfl h)
    refine z_C.go 1 rfl ?_
    exact z_C.ret rfl rfl (K0 w4 hT ht)
/-- a PRINT: what the spool answers is the answer -/
theorem e_carryP {Q' : z_W → Int32 → Prop} (h8 : w.1 3 0 8 = iN 2) (K : cRun kS_admit (0, [some (zR 12 0), some (zR 9 20)], [], w) (fun w' r => ∃ x : Int32, (x = 0 ∨ x = 1) ∧ r = some (zI x) ∧ Q' w' x)) (hq : ∀ w' x, Q' w' x → Q w' (some (zI x))) : cRun kP_carryOut (0, [some (zR 0 0), none, none], [], w) Q := by
  refine z_C.go 2 rfl ?_
  refine z_C.ld rfl rfl h8 ?_
  refine z_C.go 2 rfl ?_
  refine z_C.if (fun _ => ?_) (fun h => absurd rfl h)
  refine z_C.go 4 rfl ?_
  refine z_C.call rfl rfl K (fun w' r h => ?_)
  obtain ⟨x, hx, rfl, h⟩ := h
  exact z_C.ret rfl (if_pos (Or.inr hx)) (hq w' x h)
end CC
section CM
variable {n op : Nat} {A : Nat → Nat → Nat} {v : z_W} {Q : z_W → Option z_V → Prop}
theorem m_doesQ {x : Int32} (hop : op = 9 ∧ v.1 0 0 17 = x ∨ op = 10 ∧ x = 0) (hq : Q v (some (zI x))) : mRun kX_does (0, [some (zR 0 0), some (zI (iN op)), none], [], v) Q := by
  rcases hop with ⟨rfl, h17⟩ | ⟨rfl, rfl⟩
  · refine z_C.go 3 rfl ?_
    refine z_C.if (fun h => absurd h (by decide)) (fun _ => ?_)
    refine z_C.go 3 rfl ?_
    refine z_C.if (fun h => absurd h (by decide)) (fun _ => ?_)
    refine z_C.go 3 rfl ?_
    refine z_C.if (fun h => absurd h (by decide)) (fun _ => ?_)
    refine z_C.go 3 rfl ?_
    refine z_C.if (fun _ => ?_) (fun h => absurd rfl h)
    refine z_C.go 1 rfl ?_
    refine z_C.ld rfl rfl h17 ?_
    refine z_C.go 1 rfl ?_
    exact z_C.ret rfl rfl hq
  · refine z_C.go 3 rfl ?_
    refine z_C.if (fun h => absurd h (by decide)) (fun _ => ?_)
    refine z_C.go 3 rfl ?_
    refine z_C.if (fun h => absurd h (by decide)) (fun _ => ?_)
    refine z_C.go 3 rfl ?_
    refine z_C.if (fun h => absurd h (by decide)) (fun _ => ?_)
    refine z_C.go 3 rfl ?_
    refine z_C.if (fun h => absurd h (by decide)) (fun _ => ?_)
    refine z_C.go 1 rfl ?_
    exact z_C.ret rfl rfl hq
theorem m_doesC {lg l : Nat} {x : Int32} {st : Option Nat} (hop : op = 8 ∨ op = 12 ∨ op = 13) (h17 : v.1 0 0 17 = x) (hlg : lg ≤ 40) (h1 : v.1 0 0 9 = iN lg) (hr : mLv n A v) (hlv : nLive A n ≤ 90) (hs : stM st v) (hl : l ≤ 24)
    (hfd : ∀ v1, mT (aT 1 lg (nLive A n) st) n A v v1 → v1.1 0 0 4 = iN (tN (aT 1 lg (nLive A n) st) n A) ∧ fndF (fun j => v1.1 2 0 (10 * j)) x (tN (aT 1 lg (nLive A n) st) n A) 0 = some l)
    (K1 : ∀ v1, mT (aT 1 lg (nLive A n) st) n A v v1 → (aT 1 lg (nLive A n) st).1 = true → Q (z_si v1 2 0 (10 * l + 1) (iN (stA op))) (some (zI x))) (K0 : ∀ v1, mT (aT 1 lg (nLive A n) st) n A v v1 → ¬ (aT 1 lg (nLive A n) st).1 = true → Q (gdn (tN (aT 1 lg (nLive A n) st) n A) v1) (some (zI (-1)))) :
    mRun kX_does (0, [some (zR 0 0), some (zI (iN op)), none], [], v) Q := by
  have tl : mRun kX_does (156, [some (zR 0 0), some (zI (iN op)), none], [zI (iN (stA op)), zI x, zR 0 0], v) Q := by
    by_cases ht : (aT 1 lg (nLive A n) st).1 = true
    · refine z_C.call rfl rfl (m_change (k := l) (x := x) (y := iN (stA op)) (Q := fun v' r => r = some (zI 1) ∧ ∃ v1, mT (aT 1 lg (nLive A n) st) n A v v1 ∧ v' = z_si v1 2 0 (10 * l + 1) (iN (stA op))) hlg h1 hr hlv hs hl hfd (fun v1 h _ => ⟨rfl, v1, h, rfl⟩) (fun v1 _ h => absurd ht h)) (fun v' r h => ?_)
      obtain ⟨rfl, v1, hT, rfl⟩ := h
      have h17' : (z_si v1 2 0 (10 * l + 1) (iN (stA op))).1 0 0 17 = x := (rd_g (by omega)).trans ((hT.2.1 0 0 17 (by omega) (by omega) (by omega)).trans h17)
      refine z_C.go 1 rfl ?_
      refine z_C.if (fun h => absurd h (by decide)) (fun _ => ?_)
      refine z_C.go 1 rfl ?_
      refine z_C.ld rfl rfl h17' ?_
      refine z_C.go 1 rfl ?_
      exact z_C.ret rfl rfl (K1 v1 hT ht)
    · refine z_C.call rfl rfl (m_change (k := l) (x := x) (y := iN (stA op)) (Q := fun v' r => r = some (zI 0) ∧ ∃ v1, mT (aT 1 lg (nLive A n) st) n A v v1 ∧ v' = gdn (tN (aT 1 lg (nLive A n) st) n A) v1) hlg h1 hr hlv hs hl hfd (fun v1 _ h => absurd h ht) (fun v1 h _ => ⟨rfl, v1, h, rfl⟩)) (fun v' r h => ?_)
      obtain ⟨rfl, v1, hT, rfl⟩ := h
      refine z_C.go 1 rfl ?_
      refine z_C.if (fun _ => ?_) (fun h => absurd rfl h)
      refine z_C.go 1 rfl ?_
      exact z_C.ret rfl rfl (K0 v1 hT ht)
  rcases hop with rfl | rfl | rfl
  · refine z_C.go 3 rfl ?_
    refine z_C.if (fun h => absurd h (by decide)) (fun _ => ?_)
    refine z_C.go 3 rfl ?_
    refine z_C.if (fun _ => ?_) (fun h => absurd (by decide) h)
    refine z_C.go 2 rfl ?_
    refine z_C.ld rfl rfl h17 ?_
    refine z_C.go 3 rfl ?_
    refine z_C.if (fun _ => ?_) (fun h => absurd rfl h)
    refine z_C.go 2 rfl ?_
    exact tl
  · refine z_C.go 3 rfl ?_
    refine z_C.if (fun h => absurd h (by decide)) (fun _ => ?_)
    refine z_C.go 3 rfl ?_
    refine z_C.if (fun h => absurd h (by decide)) (fun _ => ?_)
    refine z_C.go 3 rfl ?_
    refine z_C.if (fun _ => ?_) (fun h => absurd (by decide) h)
    refine z_C.go 2 rfl ?_
    refine z_C.ld rfl rfl h17 ?_
    refine z_C.go 3 rfl ?_
    refine z_C.if (fun h => absurd h (by decide)) (fun _ => ?_)
    refine z_C.go 3 rfl ?_
    refine z_C.if (fun _ => ?_) (fun h => absurd rfl h)
    refine z_C.go 2 rfl ?_
    exact tl
  · refine z_C.go 3 rfl ?_
    refine z_C.if (fun h => absurd h (by decide)) (fun _ => ?_)
    refine z_C.go 3 rfl ?_
    refine z_C.if (fun h => absurd h (by decide)) (fun _ => ?_)
    refine z_C.go 3 rfl ?_
    refine z_C.if (fun _ => ?_) (fun h => absurd (by decide) h)
    refine z_C.go 2 rfl ?_
    refine z_C.ld rfl rfl h17 ?_
    refine z_C.go 3 rfl ?_
    refine z_C.if (fun h => absurd h (by decide)) (fun _ => ?_)
    refine z_C.go 3 rfl ?_
    refine z_C.if (fun h => absurd h (by decide)) (fun _ => ?_)
    refine z_C.go 1 rfl ?_
    exact tl
end CM
