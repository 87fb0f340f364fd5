/-! the status: the reference -/
theorem mLv.q {n : Nat} {A : Nat → Nat → Nat} {v v' : z_W} (h : mLv n A v) (hf : qF v v') : mLv n A v' := by
  obtain ⟨⟨a, b⟩, c⟩ := h
  refine ⟨⟨a, (hf.2 0 0 4 (by omega) (by omega) (by omega) (by omega)).trans b⟩, fun k hk => ?_⟩
  rw [hf.2 2 0 _ (by omega) (by omega) (by omega) (by omega), hf.2 2 0 _ (by omega) (by omega) (by omega) (by omega)]
  exact c k hk
def mPr (S : Nat → Nat) (pg : Nat) (Y : Nat → Nat) (v : z_W) : Prop := (∀ k, inS k → v.1 2 0 (250 + k) = iN (S k)) ∧ v.1 2 0 257 = iN pg ∧ v.1 2 0 258 = 0 ∧ ∀ q, q < 12 * pg → v.1 3 0 (1800 + q) = iN (Y q)
theorem qF.s2 {v : z_W} {k : Nat} {x : Int32} (hk : 250 ≤ k) : qF v (z_si v 2 0 k x) := ⟨rfl, fun g i q _ _ c _ => if_neg (fun h => c ⟨h.1, by omega⟩)⟩
section SM
variable {len n op : Nat} {D : Nat → Nat} {A : Nat → Nat → Nat} {v : z_W} {Q : z_W → Option z_V → Prop}
theorem m_prTail {G2 : List Nat} {d : Nat} {S : Nat → Nat} {po : Option (Nat × (Nat → Nat))} (hd : mD len D v) (hs : setL D G2 (some dS) = some S) (hbk : S 6 = 0 ∨ S 4 = 1) (hS : ∀ k, inS k → v.1 2 0 (250 + k) = iN (S k)) (h258 : v.1 2 0 258 = 0) (h20 : v.1 0 0 20 = iN d) (hdl : d ≤ len) (hpo : pgsR D len 240 d 0 (fun _ => 0) po) (hr : mLv n A v) (hlv : nLive A n ≤ 90)
    (K : ∀ v', qF v v' → (prS D n A G2 po = 0 → ∀ S pg Y, setL D G2 (some dS) = some S → po = some (pg, Y) → mPr S pg Y v') → Q v' (some (zI (iN (prS D n A G2 po))))) : mRun kX_printable (47, [some (zR 0 0), some (zI 250), none], [], v) Q := by
  have ep := prS_s (n := n) (A := A) hs hbk po
  refine z_C.go 1 rfl ?_
  have zero : ∀ v1, gM v v1 → po = none ∨ (∃ Y, po = some (0, Y)) → mRun kX_printable (51, [some (zR 0 0), some (zI 250), none], [zI (iN 0)], v1) Q := fun v1 f1 h => by
    have e : prS D n A G2 po = 1041 := by
      rw [ep]
      rcases h with h | ⟨Y, h⟩
      · rw [h]
      · rw [h]
        rfl
    have k9 := K (z_si v1 2 0 257 (iN 0)) (f1.q.tr (qF.s2 (by decide))) (fun h => by rw [e] at h; omega)
    rw [e] at k9
    refine z_C.go 10 rfl ?_
    refine z_C.if (fun _ => ?_) (fun h => absurd (by decide) h)
    refine z_C.go 2 rfl ?_
    exact z_C.ret rfl rfl k9
  cases hpoE : po with
  | none =>
    rw [hpoE] at hpo
    refine z_C.call rfl rfl (m_pages (Q := fun v' r => gM v v' ∧ r = some (zI 0)) hpo hd h20 hdl (fun n Y h => by cases h) (fun _ v' a => ⟨a, rfl⟩)) (fun v1 r h => ?_)
    obtain ⟨f1, rfl⟩ := h
    exact zero v1 f1 (Or.inl hpoE)
  | some x =>
    obtain ⟨pg, Y⟩ := x
    rw [hpoE] at hpo
    refine z_C.call rfl rfl (m_pages (Q := fun v' r => (gM v v' ∧ pg ≤ 240 ∧ ∀ q, q < 12 * pg → q < 72 → v'.1 3 0 (1800 + q) = iN (Y q)) ∧ r = some (zI (iN pg))) hpo hd h20 hdl (fun n Y h v' a b c => by cases h; exact ⟨⟨a, b, c⟩, rfl⟩) (fun h => by cases h)) (fun v1 r h => ?_)
    obtain ⟨⟨f1, p240, px⟩, rfl⟩ := h
    by_cases hpg : pg = 0
    · subst hpg
      exact zero v1 f1 (Or.inr ⟨Y, hpoE⟩)
    · rw [hpoE] at ep
      have ep : prS D n A G2 (some (pg, Y)) = if pg = 0 then 1041 else if 6 < pg then 1032 else if 36 < nLive A n + (1 + pg) then 1287 else 0 := ep
      rw [if_neg hpg] at ep
      rw [hpoE] at K
      have f2 : qF v (z_si v1 2 0 257 (iN pg)) := f1.q.tr (qF.s2 (by decide))
      refine z_C.go 10 rfl ?_
      refine z_C.if (fun h => absurd ((iN_inj (b := 0) (by omega) (by decide)).mp h) hpg) (fun _ => ?_)
      refine z_C.go 3 rfl ?_
      refine z_C.if (fun h => ?_) (fun h => ?_)
      · have h6 := (iN_le (b := 6) (by omega) (by decide)).mp h
        rw [if_neg (by omega)] at ep
        refine z_C.go 1 rfl ?_
        refine z_C.call rfl rfl (m_blocks (v := z_si v1 2 0 257 (iN pg)) (Q := fun v' r => v' = z_si v1 2 0 257 (iN pg) ∧ r = some (zI (iN (nLive A n)))) (hr.q f2) ⟨rfl, rfl⟩) (fun v2 r h => ?_)
        obtain ⟨rfl, rfl⟩ := h
        have es : iN (nLive A n) + 1 + iN pg = iN (nLive A n + (1 + pg)) := by
          rw [show iN (nLive A n) + 1 = iN (nLive A n + 1) from iN_add _ 1, iN_add, Nat.add_assoc]
        refine z_C.go 6 rfl ?_
        refine z_C.if (fun h => ?_) (fun h => ?_)
        · have h : iN (nLive A n) + 1 + iN pg ≤ 36 := h
          rw [es] at h
          have h := (iN_le (b := 36) (by omega) (by decide)).mp h
          rw [if_neg (by omega)] at ep
          have k9 := K _ f2 (fun _ S' pg' Y' e1 e2 => by
            rw [hs] at e1
            cases e1
            cases e2
            refine ⟨fun k hk => ?_, rfl, ?_, fun q hq => ?_⟩
            · refine (if_neg (fun h => ?_)).trans ?_
              · unfold inS at hk
                omega
              · rw [f1.2 2 0 _ (by omega) (by omega)]
                exact hS k hk
            · exact (f1.2 2 0 258 (by omega) (by omega)).trans h258
            · exact px q hq (by omega))
          rw [ep] at k9
          refine z_C.go 1 rfl ?_
          exact z_C.ret rfl rfl k9
        · have h : ¬ nLive A n + (1 + pg) ≤ 36 := fun h9 => h (show iN (nLive A n) + 1 + iN pg ≤ 36 by rw [es]; exact (iN_le (b := 36) (by omega) (by decide)).mpr h9)
          rw [if_pos (by omega)] at ep
          have k9 := K _ f2 (fun h => by rw [ep] at h; omega)
          rw [ep] at k9
          refine z_C.go 2 rfl ?_
          exact z_C.ret rfl rfl k9
      · have h6 : ¬ pg ≤ 6 := fun h9 => h ((iN_le (b := 6) (by omega) (by decide)).mpr h9)
        rw [if_pos (by omega)] at ep
        have k9 := K _ f2 (fun h => by rw [ep] at h; omega)
        rw [ep] at k9
        refine z_C.go 2 rfl ?_
        exact z_C.ret rfl rfl k9
theorem m_print {G2 : List Nat} {d : Nat} {po : Option (Nat × (Nat → Nat))} (hd : mD len D v) (hset : mSet (setL D G2 (some dS)) v) (hok : ∀ S, setL D G2 (some dS) = some S → sOK S) (h258 : v.1 2 0 258 = 0) (h20 : v.1 0 0 20 = iN d) (hdl : d ≤ len) (hpo : pgsR D len 240 d 0 (fun _ => 0) po) (hr : mLv n A v) (hlv : nLive A n ≤ 90)
    (K : ∀ v', qF v v' → (prS D n A G2 po = 0 → ∀ S pg Y, setL D G2 (some dS) = some S → po = some (pg, Y) → mPr S pg Y v') → Q v' (some (zI (iN (prS D n A G2 po))))) : mRun kX_printable (0, [some (zR 0 0), none, none], [], v) Q := by
  obtain ⟨h18, h19, hS⟩ := hset
  refine z_C.go 3 rfl ?_
  refine z_C.ld rfl rfl h18 ?_
  refine z_C.go 1 rfl ?_
  cases hs : setL D G2 (some dS) with
  | none =>
    have e := prS_n (n := n) (A := A) (po := po) hs
    have k9 := K v (qF.rf v) (fun h => by rw [e] at h; omega)
    rw [e] at k9
    refine z_C.if (fun _ => ?_) (fun h => absurd (by decide) h)
    refine z_C.go 1 rfl ?_
    exact z_C.ret rfl rfl k9
  | some S =>
    obtain ⟨hS1, hS2⟩ := hS S hs
    obtain ⟨-, -, o4, -, o6, -⟩ := hok S hs
    have tl : S 6 = 0 ∨ S 4 = 1 → mRun kX_printable (47, [some (zR 0 0), some (zI 250), none], [], v) Q := fun hbk => m_prTail hd hs hbk hS1 h258 h20 hdl hpo hr hlv K
    refine z_C.if (fun h => absurd h (show ¬ iN 1 = 0 by decide)) (fun _ => ?_)
    refine z_C.go 5 rfl ?_
    refine z_C.ld rfl rfl (hS1 6 (by unfold inS; decide)) ?_
    refine z_C.go 2 rfl ?_
    refine z_C.if (fun h => ?_) (fun h => ?_)
    · have h6 : S 6 = 1 := (iN_inj (b := 1) (by omega) (by decide)).mp h
      refine z_C.go 1 rfl ?_
      rcases h19 with h19 | h19
      · refine z_C.ld rfl rfl h19 ?_
        refine z_C.go 1 rfl ?_
        refine z_C.if (fun _ => ?_) (fun h => absurd (by decide) h)
        exact tl (Or.inr (hS2 h19))
      · refine z_C.ld rfl rfl h19 ?_
        refine z_C.go 1 rfl ?_
        refine z_C.if (fun h => absurd h (by decide)) (fun _ => ?_)
        refine z_C.go 5 rfl ?_
        refine z_C.ld rfl rfl (hS1 4 (by unfold inS; decide)) ?_
        refine z_C.go 2 rfl ?_
        refine z_C.if (fun h => ?_) (fun h => ?_)
        · exact tl (Or.inr ((iN_inj (b := 1) (by omega) (by decide)).mp h))
        · have h4 : ¬ S 4 = 1 := fun h9 => h (by rw [h9]; rfl)
          have e := prS_b (n := n) (A := A) (po := po) hs (fun h => by omega)
          have k9 := K v (qF.rf v) (fun h => by rw [e] at h; omega)
          rw [e] at k9
          refine z_C.go 1 rfl ?_
          exact z_C.ret rfl rfl k9
    · exact tl (Or.inl (by
        have : ¬ S 6 = 1 := fun h9 => h (by rw [h9]; rfl)
        omega))
theorem m_known (hop : op < 65536) (h1 : op = 2 ∨ op = 10 ∨ (op = 8 ∨ op = 9 ∨ op = 12 ∨ op = 13) → Q v (some (zI 1))) (h0 : ¬ (op = 2 ∨ op = 10 ∨ (op = 8 ∨ op = 9 ∨ op = 12 ∨ op = 13)) → Q v (some (zI 0))) : mRun kX_isKnown (0, [some (zI (iN op))], [], v) Q := by
  refine z_C.go 3 rfl ?_
  refine z_C.if (fun h => ?_) (fun h => ?_)
  · have h := (iN_inj (b := 2) (by omega) (by decide)).mp h
    refine z_C.go 2 rfl ?_
    exact z_C.ret rfl rfl (h1 (by omega))
  · have c2 : ¬ op = 2 := fun h9 => h (by rw [h9]; rfl)
    refine z_C.go 3 rfl ?_
    refine z_C.call (Q' := fun v' r => v' = v ∧ ((8 ≤ op ∧ op ≤ 10 ∧ r = some (zI 1)) ∨ (¬ (8 ≤ op ∧ op ≤ 10) ∧ r = some (zI 0)))) rfl rfl ?_ (fun v' r h => ?_)
    · refine z_C.go 3 rfl ?_
      refine z_C.if (fun h => ?_) (fun h => ?_)
      · have h := (iN_lt (b := 8) (by omega) (by decide)).mp h
        refine z_C.go 1 rfl ?_
        exact z_C.ret rfl rfl ⟨rfl, Or.inr ⟨by omega, rfl⟩⟩
      · have a : ¬ op < 8 := fun h9 => h ((iN_lt (b := 8) (by omega) (by decide)).mpr h9)
        refine z_C.go 3 rfl ?_
        refine z_C.if (fun h => ?_) (fun h => ?_)
        · have h := (iN_lt (a := 10) (by decide) (by omega)).mp h
          refine z_C.go 1 rfl ?_
          exact z_C.ret rfl rfl ⟨rfl, Or.inr ⟨by omega, rfl⟩⟩
        · have b : ¬ 10 < op := fun h9 => h ((iN_lt (a := 10) (by decide) (by omega)).mpr h9)
          refine z_C.go 2 rfl ?_
          exact z_C.ret rfl rfl ⟨rfl, Or.inl ⟨by omega, by omega, rfl⟩⟩
    · obtain ⟨rfl, ⟨a, b, rfl⟩ | ⟨a, rfl⟩⟩ := h
      · refine z_C.go 1 rfl ?_
        refine z_C.if (fun h => absurd h (by decide)) (fun _ => ?_)
        refine z_C.go 2 rfl ?_
        exact z_C.ret rfl rfl (h1 (by omega))
      · refine z_C.go 1 rfl ?_
        refine z_C.if (fun _ => ?_) (fun h => absurd (by decide) h)
        refine z_C.go 3 rfl ?_
        refine z_C.if (fun h => ?_) (fun h => ?_)
        · have h := (iN_inj (b := 12) (by omega) (by decide)).mp h
          refine z_C.go 2 rfl ?_
          exact z_C.ret rfl rfl (h1 (by omega))
        · have c12 : ¬ op = 12 := fun h9 => h (by rw [h9]; rfl)
          refine z_C.go 3 rfl ?_
          refine z_C.if (fun h => ?_) (fun h => ?_)
          · have h := (iN_inj (b := 13) (by omega) (by decide)).mp h
            refine z_C.go 2 rfl ?_
            exact z_C.ret rfl rfl (h1 (by omega))
          · have c13 : ¬ op = 13 := fun h9 => h (by rw [h9]; rfl)
            refine z_C.go 1 rfl ?_
            exact z_C.ret rfl rfl (h0 (by omega))
/-- may a job be asked for that? -/
theorem m_may {s : Nat} {k : Int32} {x4 : Option z_V} (hop : op = 8 ∨ op = 9 ∨ op = 12 ∨ op = 13) (hs2 : nSt s) (h1 : Q v (some (zI (iN (if alw op s then 0 else 1028))))) : mRun kX_statusOf (139, [some (zR 0 0), some (zI (iN op)), some (zI k), none, x4], [zI (iN s)], v) Q := by
  have hs3 : s < 100 := by unfold nSt at hs2; omega
  have yes : alw op s → mRun kX_statusOf (176, [some (zR 0 0), some (zI (iN op)), some (zI k), some (zI (iN s)), x4], [], v) Q := fun ha => by
    rw [if_pos ha] at h1
    refine z_C.go 5 rfl ?_
    refine z_C.if (fun h => absurd h (by decide)) (fun _ => ?_)
    refine z_C.go 2 rfl ?_
    exact z_C.ret rfl rfl h1
  have no : ¬ alw op s → mRun kX_statusOf (180, [some (zR 0 0), some (zI (iN op)), some (zI k), some (zI (iN s)), x4], [], v) Q := fun ha => by
    rw [if_neg ha] at h1
    refine z_C.go 4 rfl ?_
    refine z_C.if (fun _ => ?_) (fun h => absurd (by decide) h)
    refine z_C.go 1 rfl ?_
    exact z_C.ret rfl rfl h1
  rcases hop with rfl | rfl | rfl | rfl
  · refine z_C.go 4 rfl ?_
    refine z_C.if (fun h => absurd h (by decide)) (fun _ => ?_)
    refine z_C.go 3 rfl ?_
    refine z_C.if (fun _ => ?_) (fun h => absurd (by decide) h)
    refine z_C.go 3 rfl ?_
    refine z_C.if (fun h => ?_) (fun h => ?_)
    · have h := (iN_le (a := 7) (by decide) (by omega)).mp h
      exact no (fun h9 => by unfold nSt at hs2; rcases h9 with h9 | h9 | h9 | h9 <;> omega)
    · have h : ¬ 7 ≤ s := fun h9 => h ((iN_le (a := 7) (by decide) (by omega)).mpr h9)
      refine z_C.go 1 rfl ?_
      exact yes (Or.inr (Or.inl ⟨rfl, by omega⟩))
  · refine z_C.go 4 rfl ?_
    refine z_C.if (fun _ => ?_) (fun h => absurd (by decide) h)
    exact yes (Or.inl rfl)
  · refine z_C.go 4 rfl ?_
    refine z_C.if (fun h => absurd h (by decide)) (fun _ => ?_)
    refine z_C.go 3 rfl ?_
    refine z_C.if (fun h => absurd h (by decide)) (fun _ => ?_)
    refine z_C.go 4 rfl ?_
    refine z_C.if (fun _ => ?_) (fun h => absurd (by decide) h)
    refine z_C.go 3 rfl ?_
    refine z_C.if (fun h => ?_) (fun h => ?_)
    · exact yes (Or.inr (Or.inr (Or.inl ⟨rfl, (iN_inj (b := 3) (by omega) (by decide)).mp h⟩)))
    · exact no (fun h9 => h (by have e : s = 3 := by rcases h9 with h9 | h9 | h9 | h9 <;> omega
                                rw [e]; rfl))
  · refine z_C.go 4 rfl ?_
    refine z_C.if (fun h => absurd h (by decide)) (fun _ => ?_)
    refine z_C.go 3 rfl ?_
    refine z_C.if (fun h => absurd h (by decide)) (fun _ => ?_)
    refine z_C.go 4 rfl ?_
    refine z_C.if (fun h => absurd h (by decide)) (fun _ => ?_)
    refine z_C.go 2 rfl ?_
    refine z_C.if (fun h => ?_) (fun h => ?_)
    · exact yes (Or.inr (Or.inr (Or.inr ⟨rfl, (iN_inj (b := 4) (by omega) (by decide)).mp h⟩)))
    · exact no (fun h9 => h (by have e : s = 4 := by rcases h9 with h9 | h9 | h9 | h9 <;> omega
                                rw [e]; rfl))
end SM
