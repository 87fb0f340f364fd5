/-! a request keeps what class and reference have in common -/
theorem pT.both {kc km : Nat} {as : List z_V} {j : Nat} {w v : z_W} (h : cRun kc (0, z_entry (zM kc).2.2.1 (zR 0 0 :: as), [], w) (fun w' r => mRun km (0, z_entry (zM km).2.2.1 (zR 0 0 :: as), [], v) (fun v' r' => FinT j w' r v' r'))) : pT kc km as (Rel j) w v := by
  obtain ⟨n1, w', r, g1, n2, v', r', g2, i, rfl, rfl, h0, hR⟩ := h
  exact ⟨n2, w', v', i, g2, Or.inl ⟨n1, w', rfl, g1, h0⟩, hR⟩
/-- the class's reply may wait for the reference -/
theorem z_wait {S S' : z_S} {M M' : Nat → z_M} {C C' : Nat → Nat → Option z_I} {m m' : Nat} {f f' : z_F} {P : z_W → z_W → Option z_V → Prop} (h : z_C S' M' C' m' f' (fun v r' => z_C S M C m f (fun w r => r = none ∧ P w v r'))) : z_C S M C m f (fun w r => r = none ∧ z_C S' M' C' m' f' (fun v r' => P w v r')) := by
  obtain ⟨n', v, r', h2, n, w, r, h1, h0, h3⟩ := h
  exact ⟨n, w, r, h1, h0, n', v, r', h2, h3⟩
/-- where a job of that number is -/
theorem fnd_of {n : Nat} {A : Nat → Nat → Nat} {x : Int32} {k : Nat} (h : fndF (fun k => iN (A k 1)) x n 0 = some k) : k < n ∧ iN (A k 1) = x := by
  have a := fndF_some n 0 k h
  exact ⟨by omega, a.2.2⟩
theorem iN_ne {a : Nat} (h : a < 2147483648) : ¬ iN a = -1 := fun h9 => by
  have := idx_ng h
  rw [h9] at this
  exact this (by decide)
section TR
variable {j lg n nx : Nat} {A : Nat → Nat → Nat} {w v : z_W}
/-- the reply goes out, both sides: what is left is the relation -/
theorem fin_out {L : List Int32} (hC : Core 0 lg n nx A (bClr 0 w) v) (hv : vJobs n nx lg 1 A) (h0 : v.1 0 0 0 = 0) (h1 : 1 ≤ nx) (h2 : nx ≤ j + 1) (h3 : j ≤ 512) (hb : ∀ x ∈ L, x &&& 255 = x) (hL : L.length ≤ 512) (s : Int32) :
    FinT j (bClr 0 (bApp 1 L (bClr 1 w))) (some (zI s)) (mApp 5 23 L (z_si v 0 0 23 0)) (some (zI s)) :=
  ⟨s, rfl, rfl, (mA5 (by decide) (by decide)).trans h0, (hC.out hb hL).rel hv h1 h2 h3⟩
theorem app_byte {a b : List Int32} (ha : ∀ x ∈ a, x &&& 255 = x) (hb : ∀ x ∈ b, x &&& 255 = x) : ∀ x ∈ a ++ b, x &&& 255 = x := fun x hx => by
  rcases List.mem_append.mp hx with h | h
  · exact ha x h
  · exact hb x h
theorem three_byte : ∀ x ∈ ([3] : List Int32), x &&& 255 = x := fun x hx => by
  rw [List.mem_singleton.mp hx]
  decide
theorem tellO_byte {op : Nat} {a : Nat → Nat} : ∀ x ∈ tellO op a, x &&& 255 = x := by
  unfold tellO
  split
  · exact tellB_byte a
  · exact tellS_byte a
theorem tellO_len {op : Nat} {a : Nat → Nat} : (tellO op a).length ≤ 86 := by
  unfold tellO
  split
  · rw [tellB_len]; exact Nat.le_refl _
  · rw [tellS_len]; decide
end TR
theorem stS_lt {D : Nat → Nat} {len n op : Nat} {A : Nat → Nat → Nat} {o : Option (List Nat × Option (List Nat) × Nat)} {po : Option (Nat × (Nat → Nat))} : stS D len n A o po op < 65536 := by
  unfold stS prS jbS
  repeat' split
  all_goals decide
theorem t_request {j : Nat} {w v : z_W} (hj : 4 * j + 4 ≤ 2048) (h : Rel j w v) : pT kP_request kX_request [] (Rel (j + 1)) w v := by
  have hRel := h
  obtain ⟨len, lg, up, n, nx, A, h1, h2, h3, h4, h5, h6, h7, h8, h9, h10⟩ := h
  have hu : up = 0 ∨ up = 1 := by have := h2.2.2.1.1; omega
  rcases hu with rfl | rfl
  · obtain ⟨n', v', r', g3, rfl, rfl⟩ := mRun.to (k := kX_request) (as := []) (w := v) (P := fun v' r => v' = m_thr 1 v ∧ r = 0) (m_reqD h2.2.2.1.2.2 ⟨0, rfl, rfl, rfl⟩)
    exact ⟨n', w, m_thr 1 v, 0, g3, Or.inr ⟨rfl, h2.2.2.1.2.1, rfl⟩, Rel.idle hj hRel.thr⟩
  · have hC : Core len lg n nx A w v := ⟨h1, h2, h3, h4, h5, h6⟩
    have hw := h7.w
    have cu : w.1 11 0 2 = 1 := h2.2.2.1.2.1
    have mu : v.1 0 0 1 = 0 := h2.2.2.1.2.2
    have hlv36 := hw.2.2.2.2.2
    have hlg := h2.2.1.1
    have hA8 : ∀ k, k < n → A k 8 ≤ 6 := fun k hk => (hw.1 k hk).2.2.2.2.2.2.2.2.2
    have hst : ∀ k, k < n → nSt (A k 2) := fun k hk => (hw.1 k hk).2.1
    -- the bytes of the draft
    have hD : ∃ D : Nat → Nat, cD len D w ∧ mD len D v := by
      refine ⟨fun k => (w.1 2 0 k).toNatClampNeg, ⟨h1.1, h1.2.1, fun k hk => ?_⟩, ⟨h1.1, h1.2.2.1, fun k hk => ?_⟩⟩
      · obtain ⟨b, b1, b2, b3⟩ := h1.2.2.2 k hk
        show w.1 2 0 k = iN (w.1 2 0 k).toNatClampNeg ∧ (w.1 2 0 k).toNatClampNeg < 256
        rw [b2, iN_nat (by omega)]
        exact ⟨rfl, b1⟩
      · obtain ⟨b, b1, b2, b3⟩ := h1.2.2.2 k hk
        show v.1 1 0 k = iN (w.1 2 0 k).toNatClampNeg ∧ (w.1 2 0 k).toNatClampNeg < 256
        rw [b2, b3, iN_nat (by omega)]
        exact ⟨rfl, b1⟩
    obtain ⟨D, hcD, hmD⟩ := hD
    have hb : ∀ k, k < len → D k < 256 := fun k hk => (hcD.2.2 k hk).2
    obtain ⟨o, hpar⟩ := parR_ex D len
    have hpoE : ∃ po : Option (Nat × (Nat → Nat)), ∀ G1 g2 d, o = some (G1, g2, d) → pgsR D len 240 d 0 (fun _ => 0) po := by
      cases o with
      | none => exact ⟨none, fun G1 g2 d h => by cases h⟩
      | some x =>
        obtain ⟨G1, g2, d⟩ := x
        obtain ⟨po, hpo⟩ := pgsR_ex hb 240 d 0 (fun _ => 0) (by have := hcD.1; omega)
        exact ⟨po, fun _ _ _ h => by cases h; exact hpo⟩
    obtain ⟨po, hpo⟩ := hpoE
    have hop := rOp_lt hb
    refine pT.both ?_
    refine c_req (n := n) (A := A) (o := o) (po := po) cu hcD hpar hpo (hC.cLv hw) (fun k hk => (hC.cAll hw (by omega)).2 k hk 1 (by decide) (by decide)) h6.2.2.1.1 (by omega) (fun w2 fw i9 i8 inm ipr => ?_)
    refine z_swap ?_
    refine m_req (n := n) (A := A) (o := o) (po := po) mu hmD hpar (fun G1 g2 d ho => (inm G1 g2 d ho).2) hpo (hC.mLv hw) (fun k hk => (hC.mRowsN hw (by omega)).2 k hk |>.1.1) (by omega) (fun v1 fv ipm i17 => ?_)
    refine z_swap ?_
    have hC2 := hC.req hA8 fw fv
    have v0 : (z_si v1 0 0 2 0).1 0 0 0 = 0 := (rd_g (by decide)).trans ((fv.2 0 0 0 (by omega) (by omega) (by omega) (by omega)).trans rfl)
    have v17 : ∀ x, v1.1 0 0 17 = x → (z_si v1 0 0 2 0).1 0 0 17 = x := fun x h => (rd_g (by decide)).trans h
    generalize hs : stS D len n A o po (rOp D len) = s at *
    generalize hid : rId D len = id at *
    have hmr : ∀ k, mPr k = mPr k := fun _ => rfl
    have mpr2 : ∀ S pg Y, pg ≤ 6 → mPr S pg Y v1 → mPr S pg Y (z_si v1 0 0 2 0) := fun S pg Y _ h => h
    generalize hv2 : z_si v1 0 0 2 0 = v2 at *
    by_cases hs0 : s = 0
    · subst hs0
      -- the message is well formed
      have hver : ¬ oVer D len := fun hv => by rw [stS_v hv] at hs; omega
      cases o with
      | none =>
        rw [stS_0 hver] at hs
        omega
      | some x =>
        obtain ⟨G1, g2, d⟩ := x
        have e8 := i8 rfl
        obtain ⟨inm1, igd⟩ := inm G1 g2 d rfl
        have hs' := stS_1 (n := n) (A := A) (po := po) (op := rOp D len) (G1 := G1) (g2 := g2) (d := d) hver
        rw [hs] at hs'
        generalize hopE : rOp D len = op at *
        obtain ⟨st, s1, s2⟩ := hC2.2.1.st
        by_cases c2 : op = 2
        · -- PRINT
          subst c2
          rw [if_pos rfl] at hs'
          cases hS : setL D (g2.getD []) (some dS) with
          | none =>
            rw [prS_n hS] at hs'
            omega
          | some S =>
            by_cases hbk : S 6 = 0 ∨ S 4 = 1
            · rw [prS_s hS hbk] at hs'
              cases hpE : po with
              | none =>
                rw [hpE] at hs'
                have hs' : 0 = 1041 := hs'
                omega
              | some y =>
                obtain ⟨pg, Y⟩ := y
                rw [hpE] at hs'
                have hs' : 0 = if pg = 0 then 1041 else if 6 < pg then 1032 else if 36 < nLive A n + (1 + pg) then 1287 else 0 := hs'
                have p0 : ¬ pg = 0 := fun h => by rw [if_pos h] at hs'; omega
                rw [if_neg p0] at hs'
                have p6 : ¬ 6 < pg := fun h => by rw [if_pos h] at hs'; omega
                rw [if_neg p6] at hs'
                have p36 : ¬ 36 < nLive A n + (1 + pg) := fun h => by rw [if_pos h] at hs'; omega
                have hcp := ipr rfl rfl G1 g2 d S pg Y rfl hS hpE
                have hmp := mpr2 S pg Y (by omega) (ipm rfl rfl G1 g2 d S pg Y rfl hS hpE)
                have hsok := setL_ok (g2.getD []) dS S (fun q hq => igd q (List.mem_append_right _ hq)) sOK_d hS
                have hYb : ∀ q, Y q < 256 := by
                  have hp9 := hpo G1 g2 d rfl
                  rw [hpE] at hp9
                  exact pgsR_byte hb 240 d 0 (fun _ => 0) pg Y (fun _ => by decide) hp9
                have hlog := aT_log (nb := 1 + pg) (st := st) hw.2.2.2.2.1 hlg (by omega)
                have hWT := hw.T (nb := 1 + pg) (st := st) hlg (by omega)
                have hn20 : (aT (1 + pg) lg (nLive A n) st).1 = true → tN (aT (1 + pg) lg (nLive A n) st) n A < 20 := fun ht => by
                  have a1 := hlog.1
                  have a2 := hlog.2.1
                  rw [if_pos ht] at a2
                  have a3 := nBlk_2 (A := tA (aT (1 + pg) lg (nLive A n) st) n A) (tN (aT (1 + pg) lg (nLive A n) st) n A) (fun k hk => (hWT.1 k hk).2.2.2.2.2.2.2.2.1)
                  omega
                refine c_tY ?_
                refine e_carryP (Q' := fun w3 x => (x = 1 ∧ cRun kP_writeReply (0, [some (zR 0 0), some (zI (iN 0))], [], w3) (fun w' r => r = none ∧ mRun kX_request (107, [some (zR 0 0), some (zI (iN 2)), some (zI id), some (zI (iN 0)), none], [], v2) (fun v' r' => FinT (j + 1) (bClr 0 w') (some (zI (iN 0))) v' r'))) ∨ (x = 0 ∧ mRun kX_request (107, [some (zR 0 0), some (zI (iN 2)), some (zI id), some (zI (iN 0)), none], [], v2) (fun v' r' => FinT (j + 1) (bClr 1 (bClr 0 w3)) (some (zI (-1))) v' r'))) e8 ?_ (fun w3 x hx => ?_)
                · refine e_admit (lg := lg) (n := n) (nx := nx) (pg := pg) (A := A) (a := aS S pg nx) (st := st) (by omega) hlg hC2.2.1.2.1.2.1 (hC2.cLv hw) (by omega) hC2.2.2.2.2.2.2.2.1.1 hC2.2.2.2.2.2.2.2.1.2 s1 hC2.2.2.2.2.2.2.1.1 hcp.a rfl hn20 (fun ht w3 w4 rr cT1 er cp fa fp => ⟨1, Or.inr rfl, rfl, Or.inl ⟨rfl, ?_⟩⟩) (fun ht w3 cT1 => ⟨0, Or.inl rfl, rfl, Or.inr ⟨rfl, ?_⟩⟩)
                  · -- it was admitted
                    refine z_wait ?_
                    refine m_tY ?_
                    refine m_doesP (lg := lg) (n := n) (nx := nx) (pg := pg) (s9 := S 9) (A := A) (st := st) (by omega) hlg hC2.2.1.2.1.2.2 (hC2.mLv hw) (by omega) s2 hC2.2.2.2.2.2.2.1.2 hmp.2.1 (hmp.1 9 (by unfold inS; decide)) hsok.2.2.2.2.2 (fun _ v3 v4 v5 mT1 r1 ca cb => Or.inl ⟨iN nx, rfl, iN_ne (by omega), ?_⟩) (fun hn => absurd ht hn)
                    have hn20' := hn20 ht
                    have hC3 := hC2.T hA8 cT1.clr mT1 ht hlog.1
                    have hbl := hlog.2.1
                    rw [if_pos ht] at hbl
                    have hlv3 := hlog.2.2
                    have hv3 : vJobs (tN (aT (1 + pg) lg (nLive A n) st) n A) nx (aT (1 + pg) lg (nLive A n) st).2.2.2.1 1 (tA (aT (1 + pg) lg (nLive A n) st) n A) := hWT.v (fun k hk h5 _ => tA_all (P := fun a => a 2 = 5 → a 9 < nTot a) (fun k hk h => (h7.2.2.2.1 k hk).2.2 h rfl) k hk h5)
                    have t0 : v3.1 0 0 0 = 0 := (mT1.fr 0 0 0 (by decide) (by decide) (by decide)).trans v0
                    generalize aT (1 + pg) lg (nLive A n) st = t at *
                    generalize tN t n A = n1 at *
                    generalize tA t n A = A1 at *
                    have hmp3 : mPr S pg Y v3 := ⟨fun k hk => (r1.1 k (by unfold inS at hk; omega)).trans (hmp.1 k hk), (r1.1 7 (by decide)).trans hmp.2.1, (r1.1 8 (by decide)).trans hmp.2.2.1, fun q hq => (r1.2 q (by omega)).trans (hmp.2.2.2 q hq)⟩
                    have hY3 : ∀ q, q < 12 * pg → (bClr 0 w3).1 10 20 q = iN (Y q) := fun q hq => (cT1.1 10 20 q (by omega) (by omega)).trans (hcp.2.2.2 q hq)
                    have hC4 := hC3.adm (fun k hk => (hWT.1 k hk).2.2.2.2.2.2.2.2.2) hn20' (by omega) er cp.clr fa fp hY3 hYb hmp3 ca cb
                    have hW4 := hWT.adm hsok hbk h8 ⟨by omega, by omega⟩ hbl (by omega)
                    have hV4 : vJobs (n1 + 1) (nx + 1) t.2.2.2.1 1 (nA A1 n1 (aS S pg nx)) := hW4.v (fun k hk h5 _ => by
                      by_cases e : k = n1
                      · subst e
                        rw [nA_n] at h5
                        have h5 : (if S 9 = 1 then 4 else 3) = 5 := h5
                        split at h5 <;> omega
                      · rw [nA_k e] at h5 ⊢
                        exact (hv3.2.2.2.1 k (by omega)).2.2 h5 rfl)
                    rw [← admC.clr] at hC4
                    have e84 : (admC n1 nx rr w4).1 3 0 8 = iN 2 := (rd_g (by omega)).trans ((rd_g (by omega)).trans ((rd_g (by omega)).trans ((cp.2 3 0 8 (by omega) (by omega)).trans ((cT1.1 3 0 8 (by omega) (by omega)).trans e8))))
                    have e94 : (admC n1 nx rr w4).1 3 0 9 = id := (rd_g (by omega)).trans ((rd_g (by omega)).trans ((rd_g (by omega)).trans ((cp.2 3 0 9 (by omega) (by omega)).trans ((cT1.1 3 0 9 (by omega) (by omega)).trans i9))))
                    have t5 : (admM n1 nx v5).1 0 0 0 = 0 := (rd_g (by decide)).trans ((rd_g (by decide)).trans (((cp_row ca cb).2.1 0 0 0 (by decide) (by decide)).trans ((rd_g (by decide)).trans ((rd_g (by decide)).trans t0))))
                    have hfn : fndF (fun k => iN (nA A1 n1 (aS S pg nx) k 1)) (iN nx) (n1 + 1) 0 = some n1 := by
                      have k9 := fnd_at (n := n1 + 1) (k := n1) (A := nA A1 n1 (aS S pg nx)) hW4.2.1 (fun k hk => by have := (hW4.1 k hk).1.2; omega) (by omega) (n1 + 1) 0 (by omega) (by omega)
                      rw [nA_n] at k9
                      exact k9
                    refine m_wrJ (op := 2) (n := n1 + 1) (k := n1) (A := nA A1 n1 (aS S pg nx)) (hC4.mAll hW4 (by omega)) (by decide) (by decide) hfn ?_
                    refine e_wrP (n := n1 + 1) (A := nA A1 n1 (aS S pg nx)) (hC4.cAll hW4 (by omega)) (by omega) e84 e94 ?_
                    refine ⟨rfl, ?_⟩
                    rw [show n1 + 1 - 1 = n1 by omega, show tellO 2 (nA A1 n1 (aS S pg nx) n1) = tellS (nA A1 n1 (aS S pg nx) n1) from if_neg (by decide)]
                    exact fin_out hC4 hV4 t5 (by omega) (by omega) (by omega) (app_byte (app_byte (hdrR_byte _ _) (tellS_byte _)) three_byte) (by rw [List.length_append, List.length_append, hdrR_len, tellS_len]; decide) _
                  · -- the house goes down
                    refine m_tY ?_
                    refine m_doesP (lg := lg) (n := n) (nx := nx) (pg := pg) (s9 := S 9) (A := A) (st := st) (by omega) hlg hC2.2.1.2.1.2.2 (hC2.mLv hw) (by omega) s2 hC2.2.2.2.2.2.2.1.2 hmp.2.1 (hmp.1 9 (by unfold inS; decide)) hsok.2.2.2.2.2 (fun hn => absurd hn ht) (fun _ v3 mT1 => Or.inr ⟨rfl, ?_⟩)
                    refine ⟨_, rfl, rfl, ?_, hC2.D hw hlg (by omega) cT1.clr mT1 ht h8 (by omega) (by omega)⟩
                    rw [gdn_0]
                    exact (mT1.fr 0 0 0 (by decide) (by decide) (by decide)).trans v0
                · rcases hx with ⟨rfl, hx⟩ | ⟨rfl, hx⟩
                  · exact Or.inl ⟨rfl, hx⟩
                  · exact Or.inr ⟨rfl, hx⟩
            · rw [prS_b hS hbk] at hs'
              omega
        · rw [if_neg c2] at hs'
          have ris0 : ris A n := hw.2.1
          have c18 : cn (lv A) n ≤ 18 := by
            have := lv_18 (A := A) n (fun k hk => (hw.1 k hk).2.2.2.2.2.2.2.2.1)
            omega
          by_cases c10 : op = 10
          · -- LIST
            subst c10
            refine c_tY ?_
            refine e_carryN (n := n) (op := 10) inm1 (Or.inr rfl) e8 hC2.2.2.2.2.2.1.1 hC2.2.2.2.2.2.1.2.1 (Or.inl ⟨rfl, ?_⟩)
            refine z_wait ?_
            refine m_tY ?_
            refine m_doesQ (op := 10) (x := 0) (Or.inr ⟨rfl, rfl⟩) (Or.inl ⟨0, rfl, by decide, ?_⟩)
            refine m_wrL (n := n) (A := A) (hC2.mAll hw (by omega)) hst ris0 c18 ?_
            refine e_wrL (n := n) (A := A) (hC2.cAll hw (by omega)) hst ris0 c18 e8 i9 ?_
            refine ⟨rfl, ?_⟩
            have hlen := (lstO_len ris0 n).2
            exact fin_out hC2 h7 v0 h8 (by omega) (by omega) (app_byte (app_byte (hdrR_byte _ _) (lstO_byte n)) three_byte) (by rw [List.length_append, List.length_append, hdrR_len]; show 8 + _ + 1 ≤ 512; omega) _
          · rw [if_neg c10] at hs'
            by_cases cj : op = 8 ∨ op = 9 ∨ op = 12 ∨ op = 13
            · rw [if_pos cj] at hs'
              by_cases hbr : g2.isSome = true ∨ d < len
              · have e : jbS D len n A G1 g2.isSome d op = 1024 := if_pos hbr
                omega
              · have e : jbS D len n A G1 g2.isSome d op = (match jQ D G1 with | none => 1024 | some q => match fndF (fun k => iN (A k 1)) (iN (aX D q)) n 0 with | none => 1030 | some k => if alw op (A k 2) then 0 else 1028) := if_neg hbr
                rw [e] at hs'
                cases hq : jQ D G1 with
                | none =>
                  rw [hq] at hs'
                  have hs' : 0 = 1024 := hs'
                  omega
                | some q =>
                  rw [hq] at hs'
                  obtain ⟨q1, q2⟩ := jQ_some hq
                  have hs' : 0 = (match fndF (fun k => iN (A k 1)) (iN (aX D q)) n 0 with | none => 1030 | some k => if alw op (A k 2) then 0 else 1028) := hs'
                  cases hf : fndF (fun k => iN (A k 1)) (iN (aX D q)) n 0 with
                  | none =>
                    rw [hf] at hs'
                    have hs' : 0 = 1030 := hs'
                    omega
                  | some k =>
                    rw [hf] at hs'
                    have hs' : 0 = if alw op (A k 2) then 0 else 1028 := hs'
                    have hal : alw op (A k 2) := by
                      by_cases ha : alw op (A k 2)
                      · exact ha
                      · rw [if_neg ha] at hs'
                        omega
                    obtain ⟨hk, ek⟩ := fnd_of hf
                    have h17 := v17 _ (i17 rfl cj G1 g2 d q rfl hq)
                    have hAk := (hw.1 k hk).1
                    have hneg : ¬ iN (aX D q) = -1 := by rw [← ek]; exact iN_ne (by omega)
                    by_cases c9 : op = 9
                    · -- ASK
                      subst c9
                      refine c_tY ?_
                      refine e_carryN (n := n) (op := 9) inm1 (Or.inl rfl) e8 hC2.2.2.2.2.2.1.1 hC2.2.2.2.2.2.1.2.1 (Or.inl ⟨rfl, ?_⟩)
                      refine z_wait ?_
                      refine m_tY ?_
                      refine m_doesQ (op := 9) (x := iN (aX D q)) (Or.inl ⟨rfl, h17⟩) (Or.inl ⟨_, rfl, hneg, ?_⟩)
                      refine m_wrJ (op := 9) (n := n) (k := k) (A := A) (hC2.mAll hw (by omega)) (by decide) (by decide) hf ?_
                      refine e_wrJ (op := 9) (n := n) (k := k) (A := A) (hC2.cAll hw (by omega)) inm1 q1 q2 cj hf e8 i9 ?_
                      refine ⟨rfl, ?_⟩
                      exact fin_out hC2 h7 v0 h8 (by omega) (by omega) (app_byte (app_byte (hdrR_byte _ _) tellO_byte) three_byte) (by rw [List.length_append, List.length_append, hdrR_len]; have := tellO_len (op := 9) (a := A k); show 8 + _ + 1 ≤ 512; omega) _
                    · -- CANCEL, HOLD, RELEASE
                      have cc : op = 8 ∨ op = 12 ∨ op = 13 := by omega
                      have hlive : ¬ (A k 2 = 7 ∨ A k 2 = 9) := by rcases hal with h | h | h | h <;> omega
                      obtain ⟨l, hl⟩ := tIx_ex (aT 1 lg (nLive A n) st) (A := A) hk hlive
                      have hl24 : l ≤ 24 := by
                        have a1 := hl.1
                        have a2 := tN_le (aT 1 lg (nLive A n) st) n A
                        have a3 := hC2.2.2.2.2.2.1.1
                        omega
                      have hlog := aT_log (nb := 1) (st := st) hw.2.2.2.2.1 hlg (by omega)
                      have hWT := hw.T (nb := 1) (st := st) hlg (by omega)
                      have hmr2 := hC2.mRowsN hw (by omega)
                      have hfd := fun v3 (b : mT (aT 1 lg (nLive A n) st) n A v2 v3) => T_find (v := v2) hmr2.1.2 (fun q hq => (hmr2.2 q hq).1.1) hw.2.1 (fun q hq => (hmr2.2 q hq).2.1) hl b
                      rw [ek] at hfd
                      refine c_tY ?_
                      refine e_carryC (lg := lg) (n := n) (A := A) (k := k) (q := q) (st := st) (op := op) inm1 q1 q2 cc e8 hf (fun k hk => (hC2.cAll hw (by omega)).2 k hk 1 (by decide) (by decide)) hlg hC2.2.1.2.1.2.1 (hC2.cLv hw) (by omega) hC2.2.2.2.2.2.2.2.1.1 hC2.2.2.2.2.2.2.2.1.2 s1 (fun w3 cT1 ht => Or.inl ⟨rfl, ?_⟩) (fun w3 cT1 ht => Or.inr ⟨rfl, ?_⟩)
                      · refine z_wait ?_
                        refine m_tY ?_
                        refine m_doesC (lg := lg) (n := n) (A := A) (l := l) (x := iN (aX D q)) (st := st) cc h17 hlg hC2.2.1.2.1.2.2 (hC2.mLv hw) (by omega) s2 hl24 hfd (fun v3 mT1 _ => Or.inl ⟨_, rfl, hneg, ?_⟩) (fun v3 _ hn => absurd ht hn)
                        have hC3 := (hC2.T hA8 cT1.clr mT1 ht hlog.1).state (k := l) (s := stA op) hl.1
                        have er : w3.2.2 13 0 l = w2.2.2 13 0 k := hl.ref cT1
                        have er' : (bClr 0 w3).2.2 13 0 l = w2.2.2 13 0 k := er
                        rw [er', ← clr_si (by decide)] at hC3
                        have hl2 : tA (aT 1 lg (nLive A n) st) n A l 2 = A k 2 := hl.f 2
                        have hl1 : tA (aT 1 lg (nLive A n) st) n A l 1 = A k 1 := hl.f 1
                        have hl9 : tA (aT 1 lg (nLive A n) st) n A l 9 = A k 9 := hl.f 9
                        have hsA : nSt (stA op) ∧ ¬ stA op = 5 := by
                          unfold stA nSt
                          rcases cc with rfl | rfl | rfl <;> decide
                        have hW3 := hWT.set2 (k := l) (s := stA op) hsA.1 (by rw [hl2]; exact hlive) (fun h => absurd h hsA.2) (fun h => by
                          rw [hl9]
                          refine (hw.2.2.2.1 k hk).2 ?_
                          unfold stA at h
                          rcases cc with rfl | rfl | rfl
                          · exact absurd h (by decide)
                          · rcases hal with h | h | h | h <;> omega
                          · rcases hal with h | h | h | h <;> omega)
                        have hV3 := hW3.v (up := 1) (fun i hi h5 _ => by
                          by_cases e : i = l
                          · subst e
                            rw [aSet_s] at h5
                            exact absurd h5 hsA.2
                          · rw [aSet_row e] at h5 ⊢
                            exact tA_all (P := fun a => a 2 = 5 → a 9 < nTot a) (fun k hk h => (h7.2.2.2.1 k hk).2.2 h rfl) i hi h5)
                        have t3 : (z_si v3 2 0 (10 * l + 1) (iN (stA op))).1 0 0 0 = 0 := (rd_g (by omega)).trans ((mT1.fr 0 0 0 (by decide) (by decide) (by decide)).trans v0)
                        have fr3 : ∀ g i q, g = 3 ∨ g = 4 → (z_si w3 9 (w2.2.2 13 0 k) 2 (iN (stA op))).1 g i q = w2.1 g i q := fun g i q hg => (rd_g (by omega)).trans (cT1.1 g i q (by omega) (by omega))
                        have inm3 : cNam D len G1 (g2.getD []) (z_si w3 9 (w2.2.2 13 0 k) 2 (iN (stA op))) := inm1.fr cT1.2.1 (fun i q => fr3 3 i q (Or.inl rfl)) (fun q => fr3 4 0 q (Or.inr rfl))
                        have hnx : ∀ i, i < tN (aT 1 lg (nLive A n) st) n A → aSet (tA (aT 1 lg (nLive A n) st) n A) l 2 (stA op) i 1 < 2147483648 := fun i hi => by
                          have := (hW3.1 i hi).1.2
                          omega
                        have hfn : fndF (fun k => iN (aSet (tA (aT 1 lg (nLive A n) st) n A) l 2 (stA op) k 1)) (iN (aX D q)) (tN (aT 1 lg (nLive A n) st) n A) 0 = some l := by
                          have k9 := fnd_at (n := tN (aT 1 lg (nLive A n) st) n A) (k := l) (A := aSet (tA (aT 1 lg (nLive A n) st) n A) l 2 (stA op)) hW3.2.1 hnx hl.1 (tN (aT 1 lg (nLive A n) st) n A) 0 (by omega) (by omega)
                          have e1 : aSet (tA (aT 1 lg (nLive A n) st) n A) l 2 (stA op) l 1 = A k 1 := (aSet_f (by decide)).trans hl1
                          rw [e1, ek] at k9
                          exact k9
                        refine m_wrJ (op := op) (n := tN (aT 1 lg (nLive A n) st) n A) (k := l) (A := aSet (tA (aT 1 lg (nLive A n) st) n A) l 2 (stA op)) (hC3.mAll hW3 (by omega)) hop c10 hfn ?_
                        refine e_wrJ (op := op) (n := tN (aT 1 lg (nLive A n) st) n A) (k := l) (A := aSet (tA (aT 1 lg (nLive A n) st) n A) l 2 (stA op)) (hC3.cAll hW3 (by omega)) inm3 q1 q2 cj hfn ((fr3 3 0 8 (Or.inl rfl)).trans e8) ((fr3 3 0 9 (Or.inl rfl)).trans i9) ?_
                        refine ⟨rfl, ?_⟩
                        exact fin_out hC3 hV3 t3 h8 (by omega) (by omega) (app_byte (app_byte (hdrR_byte _ _) tellO_byte) three_byte) (by rw [List.length_append, List.length_append, hdrR_len]; have := tellO_len (op := op) (a := aSet (tA (aT 1 lg (nLive A n) st) n A) l 2 (stA op) l); show 8 + _ + 1 ≤ 512; omega) _
                      · refine m_tY ?_
                        refine m_doesC (lg := lg) (n := n) (A := A) (l := l) (x := iN (aX D q)) (st := st) cc h17 hlg hC2.2.1.2.1.2.2 (hC2.mLv hw) (by omega) s2 hl24 hfd (fun v3 _ hn => absurd hn ht) (fun v3 mT1 _ => Or.inr ⟨rfl, ?_⟩)
                        refine ⟨_, rfl, rfl, ?_, hC2.D hw hlg (by omega) cT1.clr mT1 ht h8 (by omega) (by omega)⟩
                        rw [gdn_0]
                        exact (mT1.fr 0 0 0 (by decide) (by decide) (by decide)).trans v0
            · rw [if_neg cj] at hs'
              omega
    · -- a status other than OK
      have hs2 : s < 65536 := by
        rw [← hs]
        exact stS_lt
      refine c_tN hs0 hs2 ?_
      refine z_wait ?_
      refine m_tN hs0 hs2 ?_
      refine m_wrN hs0 hs2 ?_
      refine e_wrN hs0 hs2 i9 ?_
      refine ⟨rfl, ?_⟩
      exact fin_out hC2 h7 v0 h8 (by omega) (by omega) (app_byte (hdrR_byte _ _) three_byte) (by rw [List.length_append, hdrR_len]; decide) _
