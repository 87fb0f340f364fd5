/-! the status of any message: the class -/
theorem cMs.nam {D : Nat → Nat} {len : Nat} {G1 : List Nat} {g2 : Option (List Nat)} {d : Nat} {w : z_W} (h : cMs D len (some (G1, g2, d)) w) (hd : cD len D w) (hp : parR D len (some (G1, g2, d))) : cNam D len G1 (g2.getD []) w := by
  obtain ⟨a, b, -, -, e, -, g⟩ := h G1 g2 d rfl
  have hl : (G1 ++ g2.getD []).length = G1.length + (g2.getD []).length := List.length_append
  exact ⟨a, b, by omega, fun q hq => e q (List.mem_append_left _ hq), (parR_some hp).2, fun q hq => (hd.2.2 q (by have := (e q (List.mem_append_left _ hq)).1; omega)).2⟩
section SE
variable {len n op : Nat} {D : Nat → Nat} {A : Nat → Nat → Nat} {o : Option (List Nat × Option (List Nat) × Nat)} {po : Option (Nat × (Nat → Nat))} {w : z_W} {Q : z_W → Option z_V → Prop}
theorem stS_v (h : oVer D len) : stS D len n A o po op = 1283 := if_pos h
theorem stS_0 (h : ¬ oVer D len) : stS D len n A none po op = 1024 := if_neg h
theorem stS_1 {G1 : List Nat} {g2 : Option (List Nat)} {d : Nat} (h : ¬ oVer D len) : stS D len n A (some (G1, g2, d)) po op = if op = 2 then prS D n A (g2.getD []) po else if op = 10 then (if g2.isSome = true ∨ d < len then 1024 else 0) else if op = 8 ∨ op = 9 ∨ op = 12 ∨ op = 13 then jbS D len n A G1 g2.isSome d op else 1281 := if_neg h
theorem e_stat (hd : cD len D w) (hpar : parR D len o) (hM : cMs D len o w) (h7 : w.1 3 0 7 = iN (if o.isSome = true then 1 else 0)) (h8 : o.isSome = true → w.1 3 0 8 = iN op) (hop : op < 65536) (hpo : ∀ G1 g2 d, o = some (G1, g2, d) → pgsR D len 240 d 0 (fun _ => 0) po)
    (hr : cLv n A w) (hnum : ∀ k, k < n → w.1 9 (w.2.2 13 0 k) 1 = iN (A k 1)) (hrf : ∀ k, k < 20 → w.2.2 13 0 k < 20) (hlv : nLive A n ≤ 90)
    (K : ∀ w', stF w w' → (stS D len n A o po op = 0 → op = 2 → ∀ G1 g2 d S pg Y, o = some (G1, g2, d) → setL D (g2.getD []) (some dS) = some S → po = some (pg, Y) → cPr S pg Y w') → Q w' (some (zI (iN (stS D len n A o po op))))) :
    cRun kP_statusOfMessage (0, [some (zR 0 0)], [], w) Q := by
  refine z_C.go 2 rfl ?_
  by_cases hv : oVer D len
  · have k9 := K w (stF.rf w) (fun h => by rw [stS_v hv] at h; omega)
    rw [stS_v hv] at k9
    refine z_C.call rfl rfl (e_ver (Q := fun w' r => w' = w ∧ r = some (zI 1)) hd (fun _ => ⟨rfl, rfl⟩) (fun h => absurd hv h)) (fun w' r h => ?_)
    obtain ⟨rfl, rfl⟩ := h
    refine z_C.go 1 rfl ?_
    refine z_C.if (fun h => absurd h (by decide)) (fun _ => ?_)
    refine z_C.go 1 rfl ?_
    exact z_C.ret rfl rfl k9
  · refine z_C.call rfl rfl (e_ver (Q := fun w' r => w' = w ∧ r = some (zI 0)) hd (fun h => absurd h hv) (fun _ => ⟨rfl, rfl⟩)) (fun w' r h => ?_)
    obtain ⟨rfl, rfl⟩ := h
    refine z_C.go 1 rfl ?_
    refine z_C.if (fun _ => ?_) (fun h => absurd (by decide) h)
    refine z_C.go 2 rfl ?_
    refine z_C.ld rfl rfl h7 ?_
    refine z_C.go 1 rfl ?_
    cases o with
    | none =>
      have k9 := K w' (stF.rf w') (fun h => by rw [stS_0 hv] at h; omega)
      rw [stS_0 hv] at k9
      refine z_C.if (fun _ => ?_) (fun h => absurd (by decide) h)
      refine z_C.go 1 rfl ?_
      exact z_C.ret rfl rfl k9
    | some x =>
      obtain ⟨G1, g2, d⟩ := x
      have e := stS_1 (n := n) (A := A) (po := po) (op := op) (G1 := G1) (g2 := g2) (d := d) hv
      have hnm := hM.nam hd hpar
      obtain ⟨ha, h5, h6, h10, hg, hdl, hL⟩ := hM G1 g2 d rfl
      refine z_C.if (fun h => absurd h (show ¬ iN 1 = 0 by decide)) (fun _ => ?_)
      refine z_C.go 2 rfl ?_
      refine z_C.ld rfl rfl (h8 rfl) ?_
      by_cases c2 : op = 2
      · subst c2
        rw [if_pos rfl] at e
        rw [e] at K
        refine z_C.go 2 rfl ?_
        refine z_C.call rfl rfl (e_stPrint (w := w') (Q := fun w1 r => (stF w' w1 ∧ (prS D n A (g2.getD []) po = 0 → ∀ S pg Y, setL D (g2.getD []) (some dS) = some S → po = some (pg, Y) → cPr S pg Y w1)) ∧ r = some (zI (iN (prS D n A (g2.getD []) po)))) hd ha h5 h10 hg hdl hL (hpo G1 g2 d rfl) hr hrf hlv (fun w1 a b => ⟨⟨a, b⟩, rfl⟩)) (fun w1 r h => ?_)
        obtain ⟨⟨f1, p1⟩, rfl⟩ := h
        refine z_C.ret rfl rfl (K w1 f1 (fun h0 _ G1' g2' d' S pg Y e1 e2 e3 => ?_))
        cases e1
        exact p1 h0 S pg Y e2 e3
      · rw [if_neg c2] at e
        have K' := fun w1 f1 => K w1 f1 (fun _ h => absurd h c2)
        clear K
        by_cases c10 : op = 10
        · subst c10
          rw [if_pos rfl] at e
          rw [e] at K'
          refine z_C.go 3 rfl ?_
          by_cases hbr : g2.isSome = true ∨ d < len
          · rw [if_pos hbr] at K'
            refine z_C.call rfl rfl (e_bare (b := g2.isSome) (d := d) (Q := fun w1 r => w1 = w' ∧ r = some (zI 0)) hd h6 h10 hdl (fun a b => by rcases hbr with h | h; (rw [h] at a; cases a); omega) (fun _ => ⟨rfl, rfl⟩)) (fun w1 r h => ?_)
            obtain ⟨rfl, rfl⟩ := h
            refine z_C.go 1 rfl ?_
            refine z_C.if (fun _ => ?_) (fun h => absurd (by decide) h)
            refine z_C.go 1 rfl ?_
            exact z_C.ret rfl rfl (K' w1 (stF.rf w1))
          · rw [if_neg hbr] at K'
            refine z_C.call rfl rfl (e_bare (b := g2.isSome) (d := d) (Q := fun w1 r => w1 = w' ∧ r = some (zI 1)) hd h6 h10 hdl (fun a b => ⟨rfl, rfl⟩) (fun h => absurd h hbr)) (fun w1 r h => ?_)
            obtain ⟨rfl, rfl⟩ := h
            refine z_C.go 1 rfl ?_
            refine z_C.if (fun h => absurd h (by decide)) (fun _ => ?_)
            refine z_C.go 2 rfl ?_
            exact z_C.ret rfl rfl (K' w1 (stF.rf w1))
        · rw [if_neg c10] at e
          by_cases cj : op = 8 ∨ op = 9 ∨ op = 12 ∨ op = 13
          · rw [if_pos cj] at e
            rw [e] at K'
            have go119 : cRun kP_statusOfMessage (119, [some (zR 0 0)], [], w') Q := by
              refine z_C.go 2 rfl ?_
              by_cases hbr : g2.isSome = true ∨ d < len
              · have eb : jbS D len n A G1 g2.isSome d op = 1024 := if_pos hbr
                rw [eb] at K'
                refine z_C.call rfl rfl (e_bare (b := g2.isSome) (d := d) (Q := fun w1 r => w1 = w' ∧ r = some (zI 0)) hd h6 h10 hdl (fun a b => by rcases hbr with h | h; (rw [h] at a; cases a); omega) (fun _ => ⟨rfl, rfl⟩)) (fun w1 r h => ?_)
                obtain ⟨rfl, rfl⟩ := h
                refine z_C.go 1 rfl ?_
                refine z_C.if (fun _ => ?_) (fun h => absurd (by decide) h)
                refine z_C.go 1 rfl ?_
                exact z_C.ret rfl rfl (K' w1 (stF.rf w1))
              · have eb : jbS D len n A G1 g2.isSome d op = (match jQ D G1 with | none => 1024 | some q => match fndF (fun k => iN (A k 1)) (iN (aX D q)) n 0 with | none => 1030 | some k => if alw op (A k 2) then 0 else 1028) := if_neg hbr
                rw [eb] at K'
                refine z_C.call rfl rfl (e_bare (b := g2.isSome) (d := d) (Q := fun w1 r => w1 = w' ∧ r = some (zI 1)) hd h6 h10 hdl (fun a b => ⟨rfl, rfl⟩) (fun h => absurd h hbr)) (fun w1 r h => ?_)
                obtain ⟨rfl, rfl⟩ := h
                refine z_C.go 1 rfl ?_
                refine z_C.if (fun h => absurd h (by decide)) (fun _ => ?_)
                refine z_C.go 2 rfl ?_
                cases hq : jQ D G1 with
                | none =>
                  rw [hq] at K'
                  refine z_C.call rfl rfl (zC_up (C' := zC) (k_names (Q := fun w2 r => w2 = w1 ∧ r = some (zI 0)) hnm (fun ⟨q, hq1, hq2⟩ => absurd hq2 (jQ_none hq q hq1)) (fun _ => ⟨rfl, rfl⟩))) (fun w2 r h => ?_)
                  obtain ⟨rfl, rfl⟩ := h
                  refine z_C.go 1 rfl ?_
                  refine z_C.if (fun _ => ?_) (fun h => absurd (by decide) h)
                  refine z_C.go 1 rfl ?_
                  exact z_C.ret rfl rfl (K' w2 (stF.rf w2))
                | some q =>
                  rw [hq] at K'
                  obtain ⟨q1, q2⟩ := jQ_some hq
                  refine z_C.call rfl rfl (zC_up (C' := zC) (k_names (Q := fun w2 r => w2 = w1 ∧ r = some (zI 1)) hnm (fun _ => ⟨rfl, rfl⟩) (fun h => absurd q2 (h q q1)))) (fun w2 r h => ?_)
                  obtain ⟨rfl, rfl⟩ := h
                  refine z_C.go 1 rfl ?_
                  refine z_C.if (fun h => absurd h (by decide)) (fun _ => ?_)
                  refine z_C.go 1 rfl ?_
                  refine z_C.call rfl rfl (e_stJob (n := n) (A := A) (op := op) (q := q) (Q := fun w3 r => w3 = w2 ∧ r = some (zI (iN (match fndF (fun k => iN (A k 1)) (iN (aX D q)) n 0 with | none => 1030 | some k => if alw op (A k 2) then 0 else 1028)))) hnm q1 q2 cj (h8 rfl) hr hnum ⟨rfl, rfl⟩) (fun w3 r h => ?_)
                  obtain ⟨rfl, rfl⟩ := h
                  refine z_C.go 1 rfl ?_
                  exact z_C.ret rfl rfl (K' w3 (stF.rf w3))
            rcases cj with rfl | rfl | rfl | rfl
            · exact z_C.go 1 rfl go119
            · exact z_C.go 1 rfl go119
            · exact z_C.go 1 rfl go119
            · exact z_C.go 1 rfl go119
          · rw [if_neg cj] at e
            rw [e] at K'
            have fin : cRun kP_statusOfMessage (150, [some (zR 0 0)], [], w') Q := by
              refine z_C.go 1 rfl ?_
              exact z_C.ret rfl rfl (K' w' (stF.rf w'))
            by_cases hrg : op < 2 ∨ 13 < op
            · have ti : (iN op).toInt = (op : Int) := iN_toInt (by omega)
              refine z_C.go1 rfl (if_pos (by rw [ti]; rcases hrg with h | h; exact Or.inl (by omega); exact Or.inr (by omega))) ?_
              exact fin
            · have h9 : op = 3 ∨ op = 4 ∨ op = 5 ∨ op = 6 ∨ op = 7 ∨ op = 11 := by omega
              rcases h9 with rfl | rfl | rfl | rfl | rfl | rfl <;> exact z_C.go 1 rfl fin
end SE
