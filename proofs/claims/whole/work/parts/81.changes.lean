/-! PURE: the six changes keep the relation -/
/-- THE TEXT on both sides -/
def ztx (sT sD : zOS) : Prop := ∃ n, n ≤ 150 ∧ zF sT 2 = nI n ∧ zF sD 19 = nI n ∧ ∀ i, i < n → zI sT 1 i = zI sD 12 i ∧ zin (zI sD 12 i) 128 = true
/-- all that is related, but for what is remembered of readings -/
def zRc (sX sT sL sP : zOS) (sSS : zSS) (sD : zOS) : Prop := zpl sP (zI sD 1) ∧ zsts sX sSS sD ∧ zrq sX sD ∧ ztx sT sD ∧ zlok sL
/-- what becomes of what is remembered -/
def zsim (sD sD' : zOS) : Prop := (∀ k, k < 46 → zI sD' 1 k = zI sD 1 k) ∧ zI sD' 5 = zI sD 5 ∧ zI sD' 6 = zI sD 6 ∧ zI sD' 8 = zI sD 8 ∧ zI sD' 9 = zI sD 9 ∧ zF sD' 5 = zF sD 5 ∧ zF sD' 7 = zF sD 7 ∧ zF sD' 8 = zF sD 8 ∧ zF sD' 10 = zF sD 10 ∧ zF sD' 14 = zF sD 14
def zcs (sX sX' sD sD' : zOS) : Prop := (zF sX' 8 = 0 ∧ zF sD' 5 = 0) ∨ (zF sX' 8 = zF sX 8 ∧ zsim sD sD')
theorem zsettle_ok {sX sT sL sP' sB : zOS} {sSS : zSS} {sD : zOS} {r : Int32} {F : Nat} (hF : 1000 ≤ F) (h0 : 0 ≤ r) (hp : zpl sP' (zI sD 1)) (hs : zsts sX sSS sD) (hq : zrq sX sD) (ht : ztx sT sD) (hl : zlok sL) (hB : zpl sB (zI sD 2)) :
    ∃ sX' S' sD', fX4_settle r sX sB sSS = some (r, sX', S') ∧ fX5_push F sD = some sD' ∧ zRc sX' sT sL sP' S' sD' ∧ zF sX' 8 = 0 ∧ zF sD' 5 = 0 ∧ zF sD' 22 = zF sD 22 := by
  obtain ⟨n', S', P, k1, k2, k3, k4⟩ := zpushq hF hs hB
  refine ⟨zsF (zsF sX 7 (nI n')) 8 0, S', zsF (zsF (zsI sD 3 P) 3 (nI n')) 5 0, ?_, k3, ⟨hp, ⟨n', k1, rfl, rfl, k4⟩, hq, ht, hl⟩, rfl, rfl, rfl⟩
  unfold fX4_settle
  rw [if_pos h0, k2, Option.bind_some, zlet_eq]
theorem zsettle {sX sT sL sP sP' sB : zOS} {sSS : zSS} {sD : zOS} {r : Int32} {h a' : Nat → Int32} {F : Nat} (hF : 1000 ≤ F) (hR : zRc sX sT sL sP sSS sD) (hB : zpl sB (zI sD 1)) (hh : ∀ k, k < 46 → h k = zI sD 1 k) (hp : zpl sP' a') (hr : zrf r sP sP' (zI sD 1) a') :
    ∃ sX' S' sD', fX4_settle r sX sB sSS = some (r, sX', S') ∧ fX5_ends F r (zsI (zsI sD 2 h) 1 a') = some (r, sD') ∧ zRc sX' sT sL sP' S' sD' ∧ zcs sX sX' sD sD' := by
  obtain ⟨r1, r2, r3, r4, r5⟩ := hR
  by_cases h0 : 0 ≤ r
  · obtain ⟨sX', S', sD', k1, k2, k3, k4, k5, -⟩ := zsettle_ok (sX := sX) (sT := sT) (sL := sL) (sP' := sP') (sB := sB) (sSS := sSS) (sD := zsI (zsI sD 2 h) 1 a') (r := r) hF h0 hp r2 r3 r4 r5 (zpl_congr (fun k hk => (hh k hk).symm) hB)
    refine ⟨sX', S', sD', k1, ?_, k3, Or.inl ⟨k4, k5⟩⟩
    unfold fX5_ends
    rw [if_pos h0, k2, Option.bind_some]
  · rcases hr with ⟨hr, rfl, rfl⟩ | hr
    · obtain ⟨R, R', e1, e2, e3⟩ := zrefused (r := r) (sX := sX) (sD := zsI (zsI sD 2 h) 1 (zI sD 1)) (by rcases hr with e | e <;> rw [e] <;> decide) r3
      have es : zsI (zsI sD 2 h) 1 (zI sD 1) = zsI sD 2 h := zsI_self (zsI sD 2 h) 1
      rw [es] at e2 ⊢
      refine ⟨zsI sX 2 R, sSS, zsI (zsI sD 2 h) 4 R', ?_, ?_, ⟨r1, r2, e3, r4, r5⟩, Or.inr ⟨rfl, fun _ _ => rfl, rfl, rfl, rfl, rfl, rfl, rfl, rfl, rfl, rfl⟩⟩
      · unfold fX4_settle
        rw [if_neg h0, e1, Option.bind_some]
      · unfold fX5_ends
        rw [if_neg h0, e2, Option.bind_some]
    · exact absurd hr h0
def zRes (sX sT sL sP sD : zOS) (c : Option (Int32 × zOS × zOS × zOS × zSS)) (q : Option (Int32 × zOS)) : Prop := ∃ r sX' sP' sB' S' sD', c = some (r, sX', sP', sB', S') ∧ q = some (r, sD') ∧ zRc sX' sT sL sP' S' sD' ∧ zcs sX sX' sD sD'
theorem zchange {sX sT sL sP sB : zOS} {sSS : zSS} {sD : zOS} {F : Nat} (hF : 1000 ≤ F) (hR : zRc sX sT sL sP sSS sD) (A : Option (Int32 × zOS)) (Bq : zOS → Option (Int32 × zOS)) (hAB : ∀ h, ∃ r sP' a', A = some (r, sP') ∧ Bq (zsI sD 2 h) = some (r, zsI (zsI sD 2 h) 1 a') ∧ zpl sP' a' ∧ zrf r sP sP' (zI sD 1) a') :
    zRes sX sT sL sP sD (Option.bind (fX2_take sB sP) (fun r_1 : zOS => (Option.bind A (fun r_3 : Int32 × zOS => (Option.bind (fX4_settle r_3.1 sX r_1 sSS) (fun r_5 : Int32 × zOS × zSS => (some (r_5.1, r_5.2.1, r_3.2, r_1, r_5.2.2))))))))
      (Option.bind (fX5_hold F sD) (fun r_1 : zOS => (Option.bind (Bq r_1) (fun r_3 : Int32 × zOS => (Option.bind (fX5_ends F r_3.1 r_3.2) (fun r_5 : Int32 × zOS => (some (r_5.1, r_5.2)))))))) := by
  obtain ⟨rB, t1, t2⟩ := p_take (sP := sB) (sO := sP)
  obtain ⟨h, g1, g2⟩ := q_hold (sD := sD) hF
  obtain ⟨r, sP', a', k1, k2, k3, k4⟩ := hAB h
  obtain ⟨sX', S', sD', m1, m2, m3, m4⟩ := zsettle (F := F) hF hR (t2 _ hR.1) g2 k3 k4
  refine ⟨r, sX', sP', rB, S', sD', ?_, ?_, m3, m4⟩
  · rw [t1, Option.bind_some, k1, Option.bind_some, m1, Option.bind_some]
  · rw [g1, Option.bind_some, k2, Option.bind_some, m2, Option.bind_some]
section ZO
variable {sX sT sL sP sB : zOS} {sSS : zSS} {sD : zOS} {F : Nat} {x1 x2 x3 x4 x5 : Int32}
theorem zo_draws (hF : 1000 ≤ F) (hR : zRc sX sT sL sP sSS sD) : zRes sX sT sL sP sD (fX4_draws F x1 x2 x3 x4 x5 sX sP sB sSS) (fX5_draws F x1 x2 x3 x4 x5 sD) := zchange hF hR (fX2_paint F x1 x2 x3 x4 x5 sP) (fun s => fX5_paint F x1 x2 x3 x4 x5 1 s) (fun h => zpl_paint (sD := zsI sD 2 h) hF hR.1)
theorem zo_rubs (hF : 1000 ≤ F) (hR : zRc sX sT sL sP sSS sD) : zRes sX sT sL sP sD (fX4_rubs F x1 x2 x3 x4 x5 sX sP sB sSS) (fX5_rubs F x1 x2 x3 x4 x5 sD) := zchange hF hR (fX2_erase F x1 x2 x3 x4 x5 sP) (fun s => fX5_paint F x1 x2 x3 x4 x5 0 s) (fun h => zpl_erase (sD := zsI sD 2 h) hF hR.1)
theorem zo_moves (hF : 1000 ≤ F) (hR : zRc sX sT sL sP sSS sD) : zRes sX sT sL sP sD (fX4_moves F x1 x2 x3 sX sP sB sSS) (fX5_moves F x1 x2 x3 sD) := zchange hF hR (fX2_shift F x1 x2 x3 sP) (fun s => fX5_doMoves F x1 x2 x3 s) (fun h => zpl_shift (sD := zsI sD 2 h) hF hR.1)
theorem zo_means (hF : 1000 ≤ F) (hR : zRc sX sT sL sP sSS sD) : zRes sX sT sL sP sD (fX4_means x1 x2 x3 sX sP sB sSS) (fX5_means F x1 x2 x3 sD) := zchange hF hR (fX2_addDevice x1 x2 x3 sP) (fun s => fX5_doMeans x1 x2 x3 s) (fun h => zpl_means (sD := zsI sD 2 h) hR.1)
theorem zo_pins (hF : 1000 ≤ F) (hR : zRc sX sT sL sP sSS sD) : zRes sX sT sL sP sD (fX4_pins x1 x2 x3 sX sP sB sSS) (fX5_pins F x1 x2 x3 sD) := zchange hF hR (fX2_addPin x1 x2 x3 sP) (fun s => fX5_doPins x1 x2 x3 s) (fun h => zpl_pins (sD := zsI sD 2 h) hR.1)
theorem zo_forgets (hF : 1000 ≤ F) (hR : zRc sX sT sL sP sSS sD) : zRes sX sT sL sP sD (fX4_forgets sX sP sB sSS) (fX5_forgets F sD) := zchange hF hR (fX2_dropMeant sP) (fun s => fX5_doForgets s) (fun h => zpl_forgets (sD := zsI sD 2 h) hR.1)
end ZO
