/-! the status of any message: the reference -/
section SN
variable {len n op : Nat} {D : Nat → Nat} {A : Nat → Nat → Nat} {o : Option (List Nat × Option (List Nat) × Nat)} {po : Option (Nat × (Nat → Nat))} {v : z_W} {Q : z_W → Option z_V → Prop}
theorem m_stat (hd : mD len D v) (hpar : parR D len o) (hop : op < 65536) (hgd : ∀ G1 g2 d, o = some (G1, g2, d) → ∀ q ∈ G1 ++ g2.getD [], aGood D len q) (hpo : ∀ G1 g2 d, o = some (G1, g2, d) → pgsR D len 240 d 0 (fun _ => 0) po)
    (hr : mLv n A v) (hnum : ∀ k, k < n → v.1 2 0 (10 * k) = iN (A k 1)) (hlv : nLive A n ≤ 90)
    (K : ∀ v', qF v v' → (stS D len n A o po op = 0 → op = 2 → ∀ G1 g2 d S pg Y, o = some (G1, g2, d) → setL D (g2.getD []) (some dS) = some S → po = some (pg, Y) → mPr S pg Y v') → (stS D len n A o po op = 0 → (op = 8 ∨ op = 9 ∨ op = 12 ∨ op = 13) → ∀ G1 g2 d q, o = some (G1, g2, d) → jQ D G1 = some q → v'.1 0 0 17 = iN (aX D q)) → Q v' (some (zI (iN (stS D len n A o po op))))) :
    mRun kX_statusOf (0, [some (zR 0 0), some (zI (iN op)), none, none, none], [], v) Q := by
  have hlen := hd.1
  have main : ¬ oVer D len → mRun kX_statusOf (32, [some (zR 0 0), some (zI (iN op)), none, none, none], [], v) Q := fun hv => by
    refine z_C.go 1 rfl ?_
    refine z_C.call rfl rfl (m_readAll (Q := fun v' r => (qF v v' ∧ mMs D len o v') ∧ r = none) hpar hd (fun v' a b => ⟨⟨a, b⟩, rfl⟩)) (fun v1 r h => ?_)
    obtain ⟨⟨f1, h13, hM⟩, rfl⟩ := h
    refine z_C.go 1 rfl ?_
    refine z_C.ld rfl rfl h13 ?_
    refine z_C.go 1 rfl ?_
    cases o with
    | none =>
      have k9 := K v1 f1 (fun h => by rw [stS_0 hv] at h; omega) (fun h => by rw [stS_0 hv] at h; omega)
      rw [stS_0 hv] at k9
      refine z_C.if (fun _ => ?_) (fun h => absurd (by decide) h)
      refine z_C.go 1 rfl ?_
      exact z_C.ret rfl rfl k9
    | some x =>
      obtain ⟨G1, g2, d⟩ := x
      have e := stS_1 (n := n) (A := A) (po := po) (op := op) (G1 := G1) (g2 := g2) (d := d) hv
      obtain ⟨hJ, hS, h15, h258, h20, hdl⟩ := hM G1 g2 d rfl
      have hd1 := hd.q f1
      have hr1 := hr.q f1
      refine z_C.if (fun h => absurd h (show ¬ iN 1 = 0 by decide)) (fun _ => ?_)
      refine z_C.go 1 rfl ?_
      by_cases hk : op = 2 ∨ op = 10 ∨ (op = 8 ∨ op = 9 ∨ op = 12 ∨ op = 13)
      · refine z_C.call rfl rfl (m_known (Q := fun v' r => v' = v1 ∧ r = some (zI 1)) hop (fun _ => ⟨rfl, rfl⟩) (fun h => absurd hk h)) (fun v' r h => ?_)
        obtain ⟨rfl, rfl⟩ := h
        refine z_C.go 1 rfl ?_
        refine z_C.if (fun h => absurd h (by decide)) (fun _ => ?_)
        refine z_C.go 3 rfl ?_
        refine z_C.if (fun h => ?_) (fun h => ?_)
        · have c2 : op = 2 := (iN_inj (b := 2) (by omega) (by decide)).mp h
          rw [if_pos c2] at e
          rw [e] at K
          refine z_C.go 1 rfl ?_
          refine z_C.call rfl rfl (m_print (v := v') (G2 := g2.getD []) (Q := fun v2 r => (qF v' v2 ∧ (prS D n A (g2.getD []) po = 0 → ∀ S pg Y, setL D (g2.getD []) (some dS) = some S → po = some (pg, Y) → mPr S pg Y v2)) ∧ r = some (zI (iN (prS D n A (g2.getD []) po)))) hd1 hS (fun S hS' => setL_ok (g2.getD []) dS S (fun q hq => hgd G1 g2 d rfl q (List.mem_append_right _ hq)) sOK_d hS') h258 h20 hdl (hpo G1 g2 d rfl) hr1 hlv (fun v2 a b => ⟨⟨a, b⟩, rfl⟩)) (fun v2 r h => ?_)
          obtain ⟨⟨f2, p2⟩, rfl⟩ := h
          refine z_C.ret rfl rfl (K v2 (f1.tr f2) (fun h0 _ G1' g2' d' S pg Y e1 e2 e3 => ?_) (fun _ h => by omega))
          cases e1
          exact p2 h0 S pg Y e2 e3
        · have c2 : ¬ op = 2 := fun h9 => h (by rw [h9]; rfl)
          rw [if_neg c2] at e
          rw [e] at K
          have K' := fun v2 f2 => K v2 f2 (fun _ h => absurd h c2)
          clear K
          -- 99: what is not as it must be
          have bad : (if op = 10 then (if g2.isSome = true ∨ d < len then 1024 else 0) else if op = 8 ∨ op = 9 ∨ op = 12 ∨ op = 13 then jbS D len n A G1 g2.isSome d op else 1281) = 1024 → mRun kX_statusOf (99, [some (zR 0 0), some (zI (iN op)), none, none, none], [], v') Q := fun hb => by
            have k9 := K' v' f1 (fun h => by rw [hb] at h; omega)
            rw [hb] at k9
            refine z_C.go 1 rfl ?_
            exact z_C.ret rfl rfl k9
          have hbr : g2.isSome = true ∨ d < len → (if op = 10 then (if g2.isSome = true ∨ d < len then 1024 else 0) else if op = 8 ∨ op = 9 ∨ op = 12 ∨ op = 13 then jbS D len n A G1 g2.isSome d op else 1281) = 1024 := fun hb => by
            by_cases c10 : op = 10
            · rw [if_pos c10, if_pos hb]
            · rw [if_neg c10, if_pos (by omega)]
              exact if_pos hb
          refine z_C.go 1 rfl ?_
          refine z_C.ld rfl rfl h15 ?_
          refine z_C.go 1 rfl ?_
          cases hg2 : g2 with
          | some G2 =>
            rw [hg2] at hbr bad
            refine z_C.if (fun h => absurd h (show ¬ iN 1 = 0 by decide)) (fun _ => ?_)
            exact bad (hbr (Or.inl rfl))
          | none =>
            rw [hg2] at hbr bad K' 
            refine z_C.if (fun _ => ?_) (fun h => absurd (show iN 0 = 0 from rfl) h)
            refine z_C.go 1 rfl ?_
            refine z_C.ld rfl rfl h20 ?_
            refine z_C.go 1 rfl ?_
            refine z_C.ld rfl rfl hd1.2.1 ?_
            refine z_C.go 1 rfl ?_
            refine z_C.if (fun h => ?_) (fun h => ?_)
            · exact bad (hbr (Or.inr ((iN_lt (by omega) (by omega)).mp h)))
            · have hdl2 : ¬ d < len := fun h9 => h ((iN_lt (by omega) (by omega)).mpr h9)
              have hnb : ¬ ((none : Option (List Nat)).isSome = true ∨ d < len) := fun h9 => by
                rcases h9 with h9 | h9
                · cases h9
                · exact hdl2 h9
              refine z_C.go 3 rfl ?_
              refine z_C.if (fun h => ?_) (fun h => ?_)
              · have c10 : op = 10 := (iN_inj (b := 10) (by omega) (by decide)).mp h
                have k9 := K' v' f1 (fun _ h => by omega)
                rw [if_pos c10, if_neg hnb] at k9
                subst c10
                refine z_C.go 3 rfl ?_
                refine z_C.if (fun _ => ?_) (fun h => absurd rfl h)
                refine z_C.go 1 rfl ?_
                exact z_C.ret rfl rfl k9
              · have c10 : ¬ op = 10 := fun h9 => h (by rw [h9]; rfl)
                have cj : op = 8 ∨ op = 9 ∨ op = 12 ∨ op = 13 := by omega
                rw [if_neg c10, if_pos cj] at K' bad
                have eb : jbS D len n A G1 (none : Option (List Nat)).isSome d op = (match jQ D G1 with | none => 1024 | some q => match fndF (fun k => iN (A k 1)) (iN (aX D q)) n 0 with | none => 1030 | some k => if alw op (A k 2) then 0 else 1028) := if_neg hnb
                rw [eb] at K' bad
                refine z_C.go 1 rfl ?_
                cases hq : jQ D G1 with
                | none =>
                  have h16 : v'.1 0 0 16 = 0 := by
                    rcases hJ with ⟨h, -⟩ | ⟨-, q, hq1, hq2, -⟩
                    · exact h
                    · exact absurd hq2 (jQ_none hq q hq1)
                  refine z_C.ld rfl rfl h16 ?_
                  refine z_C.go 1 rfl ?_
                  refine z_C.if (fun _ => ?_) (fun h => absurd rfl h)
                  exact bad (by rw [hq])
                | some q =>
                  obtain ⟨q1, q2⟩ := jQ_some hq
                  have hnd := (parR_some hpar).2
                  have h1617 : v'.1 0 0 16 = 1 ∧ v'.1 0 0 17 = iN (aX D q) := by
                    rcases hJ with ⟨-, h⟩ | ⟨h, q', hq1, hq2, h9⟩
                    · exact absurd q2 (h q q1)
                    · rw [hnd q' q hq1 q1 (hq2.2.trans q2.2.symm)] at h9
                      exact ⟨h, h9⟩
                  rw [hq] at K'
                  have K2 : ∀ v2, qF v v2 → v2.1 0 0 17 = iN (aX D q) → Q v2 (some (zI (iN (match fndF (fun k => iN (A k 1)) (iN (aX D q)) n 0 with | none => 1030 | some k => if alw op (A k 2) then 0 else 1028)))) := fun v2 f2 h => K' v2 f2 (fun _ _ G1' g2' d' q' e1 e2 => by
                    cases e1
                    rw [hq] at e2
                    cases e2
                    exact h)
                  clear K'
                  refine z_C.ld rfl rfl h1617.1 ?_
                  refine z_C.go 1 rfl ?_
                  refine z_C.if (fun h => absurd h (by decide)) (fun _ => ?_)
                  refine z_C.go 3 rfl ?_
                  refine z_C.if (fun h => absurd ((iN_inj (b := 10) (by omega) (by decide)).mp h) c10) (fun _ => ?_)
                  refine z_C.go 2 rfl ?_
                  refine z_C.ld rfl rfl h1617.2 ?_
                  have hnum1 : ∀ k, k < n → v'.1 2 0 (10 * k) = iN (A k 1) := fun k hk => by
                    have := hr.1.1
                    exact (f1.2 2 0 _ (by omega) (by omega) (by omega) (by omega)).trans (hnum k hk)
                  have ef : fndF (fun j => v'.1 2 0 (10 * j)) (iN (aX D q)) n 0 = fndF (fun k => iN (A k 1)) (iN (aX D q)) n 0 := fndF_congr n 0 (fun k _ hk => hnum1 k (by omega))
                  have hn24 := hr.1.1
                  refine z_C.call rfl rfl (m_find (Q := fun v2 r => v2 = v' ∧ r = some (zI (idxJ (fndF (fun k => iN (A k 1)) (iN (aX D q)) n 0)))) hr1.1.2 (by omega) ⟨rfl, by rw [ef]⟩) (fun v2 r h => ?_)
                  obtain ⟨rfl, rfl⟩ := h
                  cases hf : fndF (fun k => iN (A k 1)) (iN (aX D q)) n 0 with
                  | none =>
                    rw [hf] at K2
                    refine z_C.go 3 rfl ?_
                    refine z_C.if (fun h => absurd h (by decide)) (fun _ => ?_)
                    refine z_C.go 1 rfl ?_
                    exact z_C.ret rfl rfl (K2 v2 f1 h1617.2)
                  | some k =>
                    rw [hf] at K2
                    have hk : k < n := by have := (fndF_some n 0 k hf).2.1; omega
                    obtain ⟨a1, -, a3, -⟩ := hr1.2 k hk
                    obtain ⟨-, i1, n1⟩ := j_ix (k := k) (f := 1) (by omega) (by decide)
                    refine z_C.go 3 rfl ?_
                    refine z_C.if (fun _ => ?_) (fun h => absurd ((iN_le (a := 0) (b := k) (by decide) (by omega)).mpr (by omega)) h)
                    refine z_C.go 7 rfl ?_
                    have b1 : v2.1 2 0 (10 * iN k + iN 1).toNatClampNeg = iN (A k 2) := by rw [n1]; exact a1
                    refine z_C.ld rfl (if_pos ⟨rfl, i1⟩) b1 ?_
                    exact m_may cj a3 (K2 v2 f1 h1617.2)
      · refine z_C.call rfl rfl (m_known (Q := fun v' r => v' = v1 ∧ r = some (zI 0)) hop (fun h => absurd h hk) (fun _ => ⟨rfl, rfl⟩)) (fun v' r h => ?_)
        obtain ⟨rfl, rfl⟩ := h
        rw [if_neg (by omega), if_neg (by omega), if_neg (by omega)] at e
        have k9 := K v' f1 (fun h => by rw [e] at h; omega) (fun h => by rw [e] at h; omega)
        rw [e] at k9
        refine z_C.go 1 rfl ?_
        refine z_C.if (fun _ => ?_) (fun h => absurd (by decide) h)
        refine z_C.go 1 rfl ?_
        exact z_C.ret rfl rfl k9
  have ver : oVer D len → mRun kX_statusOf (28, [some (zR 0 0), some (zI (iN op)), none, none, none], [], v) Q := fun hv => by
    have k9 := K v (qF.rf v) (fun h => by rw [stS_v hv] at h; omega) (fun h => by rw [stS_v hv] at h; omega)
    rw [stS_v hv] at k9
    refine z_C.go 1 rfl ?_
    exact z_C.ret rfl rfl k9
  refine z_C.go 1 rfl ?_
  refine z_C.ld rfl rfl hd.2.1 ?_
  refine z_C.go 2 rfl ?_
  refine z_C.if (fun h => ?_) (fun h => ?_)
  · have h := (iN_le (b := 1) (by omega) (by decide)).mp h
    exact main (fun hv => by have := hv.1; omega)
  · have h2 : ¬ len ≤ 1 := fun h9 => h ((iN_le (b := 1) (by omega) (by decide)).mpr h9)
    obtain ⟨b0, c0⟩ := hd.2.2 0 (by omega)
    obtain ⟨b1, c1⟩ := hd.2.2 1 (by omega)
    refine z_C.go 3 rfl ?_
    refine z_C.ld rfl rfl b0 ?_
    refine z_C.go 2 rfl ?_
    refine z_C.if (fun h => ?_) (fun h => ?_)
    · have e0 : D 0 = 1 := (iN_inj (b := 1) (by omega) (by decide)).mp h
      refine z_C.go 3 rfl ?_
      refine z_C.ld rfl rfl b1 ?_
      refine z_C.go 2 rfl ?_
      refine z_C.if (fun h => ?_) (fun h => ?_)
      · have e1 : D 1 = 1 := (iN_inj (b := 1) (by omega) (by decide)).mp h
        exact main (fun hv => hv.2 ⟨e0, e1⟩)
      · exact ver ⟨by omega, fun h9 => h (by rw [h9.2]; rfl)⟩
    · exact ver ⟨by omega, fun h9 => h (by rw [h9.1]; rfl)⟩
end SN
