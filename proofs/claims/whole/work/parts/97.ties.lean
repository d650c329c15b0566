/-! PURE: the class ties nets to nodes, and records a match -/
theorem zI_o {s : zOS} {k j : Nat} {f : Nat → Int32} (h : j ≠ k) : zI (zsI s k f) j = zI s j := if_neg h
theorem p_tie {sM : zOS} {k n F : Nat} {v : Int32} {S : Nat × Int32 → Prop} (hF : 1000 ≤ F) (hn : n < 10) (hv : ¬ v = -1) (hw : zwf S) (hc : zcon S) (ht : ztel (zI sM k) S) : ∃ b T', fX1_tie F k (nI n) v sM = some (zb b, zsI sM k T') ∧ (b = true ↔ zcon (zadp S (n, v))) ∧ (b = true → ztel T' (zadp S (n, v))) := by
  have hiff := ztie hw hc ht hn hv
  unfold fX1_tie
  rw [zchk_nI hn (by decide), zchk_nI hn (by decide), nI_clamp (show n < 2 ^ 31 by omega)]
  by_cases h1 : zI sM k n = -1
  · rw [if_pos h1]
    have key := zit_wf (B := fun kc9 (p9 : Int32) => bX1_tie_22 F k (nI n) v sM kc9 p9) (fun p => ∃ m, m ≤ 10 ∧ p = nI m ∧ ∀ m', m' < m → ¬ zI sM k m' = v) (fun p => 11 - p.toNatClampNeg) (fun o => (o = some (1, zsI sM k (upd (zI sM k) n v)) ∧ ∀ m, m < 10 → ¬ zI sM k m = v) ∨ (o = some (0, sM) ∧ ∃ m, m < 10 ∧ zI sM k m = v)) (by
      rintro kc p ⟨m, hm, rfl, hno⟩
      show (∃ p', _ ∧ _ ∧ bX1_tie_22 F k (nI n) v sM kc (nI m) = kc p') ∨ ((bX1_tie_22 F k (nI n) v sM kc (nI m) = _ ∧ _) ∨ (bX1_tie_22 F k (nI n) v sM kc (nI m) = _ ∧ _))
      unfold bX1_tie_22
      by_cases h10 : m = 10
      · right; left
        rw [if_pos (show (10 : Int32) ≤ nI m from zle_ok (n := 10) (by omega) (by omega)), zchk_nI hn (by decide), zlet_eq, nI_clamp (show n < 2 ^ 31 by omega), zbk_1]
        exact ⟨rfl, fun m' hm' => hno m' (by omega)⟩
      · rw [if_neg (show ¬ (10 : Int32) ≤ nI m from zlt_no (n := 10) (by omega) (by decide)), zchk_nI (show m < 10 by omega) (by decide), nI_clamp (show m < 2 ^ 31 by omega)]
        by_cases e : zI sM k m = v
        · right; right
          rw [if_pos e, zbk_0]
          exact ⟨rfl, m, by omega, e⟩
        · left
          rw [if_neg e, nI_1]
          refine ⟨nI (m + 1), ⟨m + 1, by omega, rfl, fun m' hm' => ?_⟩, by rw [nI_clamp (by omega)]; omega, rfl⟩
          by_cases em : m' = m
          · rw [em]; exact e
          · exact hno m' (by omega)) F (0 : Int32) ⟨0, by omega, rfl, fun m' hm' => by omega⟩ (by show 11 - _ < F; omega)
    rcases key with ⟨e, h2⟩ | ⟨e, m, h2, h3⟩
    · have hz := hiff.mpr (Or.inr ⟨h1, h2⟩)
      exact ⟨true, upd (zI sM k) n v, e, ⟨fun _ => hz, fun _ => rfl⟩, fun _ => ztie_t ht hz⟩
    · refine ⟨false, zI sM k, by rw [e, zsI_self]; rfl, ⟨fun h => (by cases h), fun h => ?_⟩, fun h => (by cases h)⟩
      rcases hiff.mp h with q | ⟨-, q⟩
      · exact absurd (q.symm.trans h1) hv
      · exact absurd h3 (q m h2)
  · rw [if_neg h1]
    by_cases h2 : zI sM k n = v
    · rw [if_pos h2, zbk_1]
      have hz := hiff.mpr (Or.inl h2)
      have ht' := ztie_t ht hz
      have eu : upd (zI sM k) n v = zI sM k := by rw [← h2]; exact upd_id _ _
      rw [eu] at ht'
      exact ⟨true, zI sM k, by rw [zsI_self]; rfl, ⟨fun _ => hz, fun _ => rfl⟩, fun _ => ht'⟩
    · rw [if_neg h2, zbk_0]
      refine ⟨false, zI sM k, by rw [zsI_self]; rfl, ⟨fun h => (by cases h), fun h => ?_⟩, fun h => (by cases h)⟩
      rcases hiff.mp h with q | ⟨q, -⟩
      · exact absurd q h2
      · exact absurd q h1
theorem p_fill {s : zOS} {n k F : Nat} {x : Int32} (hF : 1000 ≤ F) (hn : n ≤ 100) : ∃ H, fJ7_fill_53178 F n k x s = some (zsI s k H) ∧ ∀ v, v < n → H v = x := by
  unfold fJ7_fill_53178
  rw [zlet_eq]
  obtain ⟨F', p', ⟨H, rfl, hH⟩, -, e⟩ := zfor (B := fun kc9 (p9 : Int32 × zOS) => bJ7_fill_53178_5 F n k x (nI n) kc9 p9.1 p9.2) (fun i p => ∃ H, p = (nI i, zsI s k H) ∧ ∀ v, v < i → H v = x) n (by
    rintro kc i p hi ⟨H, rfl, hH⟩
    refine ⟨(nI (i + 1), zsI s k (upd H i x)), ⟨_, rfl, fun v hv => ?_⟩, ?_⟩
    · by_cases e : v = i
      · subst e; exact zud_s _ _ _
      · rw [zud_n _ _ e]; exact hH v (by omega)
    · show bJ7_fill_53178_5 F n k x (nI n) kc (nI i) (zsI s k H) = _
      unfold bJ7_fill_53178_5
      rw [if_neg (zlt_no hi (by omega)), zchk_nI hi (by omega), zlet_eq, nI_clamp (show i < 2 ^ 31 by omega), nI_1, show zI (zsI s k H) k = H from zI_e, zsI_I]) (F := F) (p := ((0 : Int32), s)) ⟨zI s k, by rw [zsI_self]; rfl, fun v hv => by omega⟩ (by omega)
  refine ⟨H, e.trans ?_, hH⟩
  show bJ7_fill_53178_5 F n k x (nI n) _ (nI n) (zsI s k H) = _
  unfold bJ7_fill_53178_5
  rw [if_pos (zle_ok (Nat.le_refl n) (by omega))]
theorem p_tiePins {sM sP sL : zOS} {a : Nat → Int32} {nd np N F : Nat} {lab : Nat → Option Nat} {T : Nat → Int32} (hF : 1000 ≤ F) (h : zpd sP a nd np) (hw : zcw sL N lab) (hl : ∀ p j, p < 192 → lab p = some j → j < 192) (hT : ∀ n, n < 10 → T n = -1) : ∃ b T', fX1_tiePins F 6 (zsI sM 6 T) sP sL = some (zb b, zsI sM 6 T') ∧ (b = true ↔ zcon (zSi lab a np)) ∧ (b = true → ztel T' (zSi lab a np)) := by
  have hnp := h.1.2.1
  unfold fX1_tiePins
  refine zit_wf (fun p => ∃ i T', i ≤ np ∧ p = (nI i, zsI sM 6 T') ∧ zcon (zSi lab a i) ∧ ztel T' (zSi lab a i)) (fun p => 8 - p.1.toNatClampNeg) (fun o => ∃ b T', o = some (zb b, zsI sM 6 T') ∧ (b = true ↔ zcon (zSi lab a np)) ∧ (b = true → ztel T' (zSi lab a np))) ?_ F ((0 : Int32), zsI sM 6 T) ⟨0, T, by omega, rfl, zSi_c0, zSi_0 hT⟩ (by show 8 - _ < F; omega)
  rintro kc p ⟨i, T', hi, rfl, hcon, ht⟩
  show (∃ p', _ ∧ _ ∧ bX1_tiePins_2 F 6 sP sL kc (nI i) (zsI sM 6 T') = kc p') ∨ (∃ b T2, bX1_tiePins_2 F 6 sP sL kc (nI i) (zsI sM 6 T') = _ ∧ _)
  unfold bX1_tiePins_2
  rw [h.2.2.1]
  by_cases hin : i = np
  · right
    rw [if_pos (zle_ok (by omega) (by omega)), zbk_1]
    rw [hin] at hcon ht
    exact ⟨true, T', rfl, ⟨fun _ => hcon, fun _ => rfl⟩, fun _ => ht⟩
  · have hi' : i < np := by omega
    have mu : 8 - (nI (i + 1)).toNatClampNeg < 8 - (nI i).toNatClampNeg := by rw [nI_clamp (by omega), nI_clamp (by omega)]; omega
    rw [if_neg (zlt_no hi' (by omega)), p_pinNode hF h hw hi', Option.bind_some, nI_1]
    cases en : zpnd lab a i with
    | none =>
      left
      rw [show zenc none = (-1 : Int32) from rfl, if_pos rfl]
      exact ⟨(nI (i + 1), zsI sM 6 T'), ⟨i + 1, T', by omega, rfl, by rw [zSi_n en]; exact hcon, by rw [zSi_n en]; exact ht⟩, mu, rfl⟩
    | some v =>
      obtain ⟨e2, b2⟩ := zpnc_e h.1 hi' (show 2 < 3 by decide)
      obtain ⟨e1, b1⟩ := zpnc_e h.1 hi' (show 1 < 3 by decide)
      obtain ⟨e0, b0⟩ := zpnc_e h.1 hi' (show 0 < 3 by decide)
      rw [if_pos rfl] at b2
      rw [if_neg (by decide)] at b1 b0
      have hv192 := hl _ v (by omega) en
      obtain ⟨b, T2, p1, p2, p3⟩ := p_tie (sM := zsI sM 6 T') (k := 6) (n := zpnc a i 2) (v := nI v) (S := zSi lab a i) hF b2 (nI_ne1 (by omega)) (zSi_wf h.1 hl (by omega)) hcon ht
      rw [show zenc (some v) = nI v from rfl, if_neg (nI_ne1 (by omega)), p_pinNet h hi', Option.bind_some, p1, Option.bind_some, zsI_I, zif_b]
      cases b with
      | false =>
        right
        rw [if_neg (by decide), zbk_0]
        exact ⟨false, T2, rfl, ⟨fun q => (by cases q), fun q => by
          have := zSi_mono (show i + 1 ≤ np by omega) q
          rw [zSi_s en] at this
          exact absurd (p2.mpr this) (by decide)⟩, fun q => (by cases q)⟩
      | true =>
        left
        rw [if_pos rfl]
        exact ⟨(nI (i + 1), zsI sM 6 T2), ⟨i + 1, T2, by omega, rfl, by rw [zSi_s en]; exact p2.mp rfl, by rw [zSi_s en]; exact p3 rfl⟩, mu, rfl⟩
/-- the first, as the class keeps it -/
def zBf (sM : zOS) (D k : Nat) : Int32 := if k < D then zI sM 4 k else zI sM 5 (k - D)
def zKf (sM : zOS) (D r k : Nat) : Int32 := if k < D then zI sM 2 k else zI sM r (k - D)
theorem p_isBefore {sM sP : zOS} {D r F : Nat} (hF : 1000 ≤ F) (hD : D ≤ 6) (h3 : zF sP 3 = nI D) : ∃ b, fX1_isBeforeFirst F r sM sP = some (zb b) ∧ (b = true ↔ zltK (D + 10) (zKf sM D r) (zBf sM D)) := by
  have diff : ∀ k, k < D + 10 → (∀ j, j < k → zKf sM D r j = zBf sM D j) → ¬ zKf sM D r k = zBf sM D k → ∃ b, (if zBf sM D k ≤ zKf sM D r k then (zbk (0 : Int32) (some ((0 : Int32)))) else (zbk (1 : Int32) (some ((1 : Int32))))) = some (zb b) ∧ (b = true ↔ zltK (D + 10) (zKf sM D r) (zBf sM D)) := fun k hk hj hne => by
    by_cases hle : zBf sM D k ≤ zKf sM D r k
    · rw [if_pos hle]
      refine ⟨false, rfl, ⟨fun h => (by cases h), fun h => ?_⟩⟩
      obtain ⟨j, hj1, hlt, hjj⟩ := h
      rcases Nat.lt_trichotomy j k with q | q | q
      · rw [hj j q] at hlt; exact absurd hlt Int32.lt_irrefl
      · rw [q] at hlt; exact absurd hle (Int32.not_le.mpr hlt)
      · exact absurd (hjj k q) hne
    · rw [if_neg hle]
      exact ⟨true, rfl, ⟨fun _ => ⟨k, hk, Int32.not_le.mp hle, hj⟩, fun _ => rfl⟩⟩
  have kb : ∀ n, n < 10 → zKf sM D r (D + n) = zI sM r n ∧ zBf sM D (D + n) = zI sM 5 n := fun n hn => by
    unfold zKf zBf
    rw [if_neg (by omega), if_neg (by omega), Nat.add_sub_cancel_left]
    exact ⟨rfl, rfl⟩
  have kg : ∀ k, k < D → zKf sM D r k = zI sM 2 k ∧ zBf sM D k = zI sM 4 k := fun k hk => by
    unfold zKf zBf
    rw [if_pos hk, if_pos hk]
    exact ⟨rfl, rfl⟩
  have second : (∀ j, j < D → zKf sM D r j = zBf sM D j) → ∃ b, (zit (P := Int32) (R := Int32) (fun kc9 p9 => bX1_isBeforeFirst_57 F r sM kc9 p9) F (0 : Int32)) = some (zb b) ∧ (b = true ↔ zltK (D + 10) (zKf sM D r) (zBf sM D)) := fun hD0 => by
    refine zit_wf (fun p => ∃ n, n ≤ 10 ∧ p = nI n ∧ ∀ j, j < D + n → zKf sM D r j = zBf sM D j) (fun p => 11 - p.toNatClampNeg) (fun o => ∃ b, o = some (zb b) ∧ (b = true ↔ zltK (D + 10) (zKf sM D r) (zBf sM D))) ?_ F (0 : Int32) ⟨0, by omega, rfl, hD0⟩ (by show 11 - _ < F; omega)
    rintro kc p ⟨n, hn, rfl, hj⟩
    show (∃ p', _ ∧ _ ∧ bX1_isBeforeFirst_57 F r sM kc (nI n) = kc p') ∨ (∃ b, bX1_isBeforeFirst_57 F r sM kc (nI n) = _ ∧ _)
    unfold bX1_isBeforeFirst_57
    by_cases h10 : n = 10
    · right
      rw [if_pos (show (10 : Int32) ≤ nI n from zle_ok (n := 10) (by omega) (by omega)), zbk_0]
      refine ⟨false, rfl, ⟨fun h => (by cases h), fun h => ?_⟩⟩
      obtain ⟨j, hj1, hlt, -⟩ := h
      rw [hj j (by omega)] at hlt; exact absurd hlt Int32.lt_irrefl
    · obtain ⟨k1, k2⟩ := kb n (by omega)
      rw [if_neg (show ¬ (10 : Int32) ≤ nI n from zlt_no (n := 10) (by omega) (by decide)), zchk_nI (show n < 10 by omega) (by decide), zchk_nI (show n < 10 by omega) (by decide), zchk_nI (show n < 10 by omega) (by decide), zchk_nI (show n < 10 by omega) (by decide), nI_clamp (show n < 2 ^ 31 by omega), ← k1, ← k2, nI_1]
      by_cases e : zKf sM D r (D + n) = zBf sM D (D + n)
      · left
        rw [if_pos e]
        refine ⟨nI (n + 1), ⟨n + 1, by omega, rfl, fun j hj1 => ?_⟩, by rw [nI_clamp (by omega)]; omega, rfl⟩
        by_cases ej : j = D + n
        · rw [ej]; exact e
        · exact hj j (by omega)
      · right
        rw [if_neg e]
        exact diff (D + n) (by omega) hj e
  unfold fX1_isBeforeFirst
  refine zit_wf (fun p => ∃ n, n ≤ D ∧ p = nI n ∧ ∀ j, j < n → zKf sM D r j = zBf sM D j) (fun p => 11 - p.toNatClampNeg) (fun o => ∃ b, o = some (zb b) ∧ (b = true ↔ zltK (D + 10) (zKf sM D r) (zBf sM D))) ?_ F (0 : Int32) ⟨0, by omega, rfl, fun j hj => by omega⟩ (by show 11 - _ < F; omega)
  rintro kc p ⟨n, hn, rfl, hj⟩
  show (∃ p', _ ∧ _ ∧ bX1_isBeforeFirst_2 F r sM sP kc (nI n) = kc p') ∨ (∃ b, bX1_isBeforeFirst_2 F r sM sP kc (nI n) = _ ∧ _)
  unfold bX1_isBeforeFirst_2
  rw [h3]
  by_cases hnD : n = D
  · right
    rw [if_pos (zle_ok (by omega) (by omega))]
    exact second (fun j hj1 => hj j (by omega))
  · obtain ⟨k1, k2⟩ := kg n (by omega)
    rw [if_neg (zlt_no (show n < D by omega) (by omega)), zchk_nI (show n < 6 by omega) (by decide), zchk_nI (show n < 6 by omega) (by decide), zchk_nI (show n < 6 by omega) (by decide), zchk_nI (show n < 6 by omega) (by decide), nI_clamp (show n < 2 ^ 31 by omega), ← k1, ← k2, nI_1]
    by_cases e : zKf sM D r n = zBf sM D n
    · left
      rw [if_pos e]
      refine ⟨nI (n + 1), ⟨n + 1, by omega, rfl, fun j hj1 => ?_⟩, by rw [nI_clamp (by omega)]; omega, rfl⟩
      by_cases ej : j = n
      · rw [ej]; exact e
      · exact hj j (by omega)
    · right
      rw [if_neg e]
      exact diff n (by omega) hj e
theorem p_record {sM sP : zOS} {D r F f : Nat} (hF : 1000 ≤ F) (hD : D ≤ 6) (hr : 6 ≤ r) (h3 : zF sP 3 = nI D) (h8 : zF sM 8 = nI f) (hf : f ≤ 9999) : ∃ b A4 A5, fX1_record F r sM sP = some (zsF (zsI (zsI sM 4 A4) 5 A5) 8 (nI (min (f + 1) 9999))) ∧ (f = 0 → b = true) ∧ (¬ f = 0 → (b = true ↔ zltK (D + 10) (zKf sM D r) (zBf sM D))) ∧ (b = true → (∀ k, k < 6 → A4 k = zI sM 2 k) ∧ ∀ n, n < 10 → A5 n = zI sM r n) ∧ (b = false → A4 = zI sM 4 ∧ A5 = zI sM 5) := by
  have j42 : ∀ σ : zOS, zF σ 8 = nI f → jX1_record_42 F σ = some (zsF σ 8 (nI (min (f + 1) 9999))) := fun σ hσ => by
    unfold jX1_record_42
    rw [zlet_eq, hσ, nI_1]
    by_cases h : f = 9999
    · subst h
      rw [if_pos (show (9999 : Int32) < nI (9999 + 1) by decide)]
      rfl
    · rw [if_neg (show ¬ (9999 : Int32) < nI (f + 1) from Int32.not_lt.mpr (zle_ok (n := f + 1) (i := 9999) (by omega) (by decide))), show min (f + 1) 9999 = f + 1 by omega]
  have j15 : ∃ A4 A5, jX1_record_15 F r sM = some (zsF (zsI (zsI sM 4 A4) 5 A5) 8 (nI (min (f + 1) 9999))) ∧ (∀ k, k < 6 → A4 k = zI sM 2 k) ∧ ∀ n, n < 10 → A5 n = zI sM r n := by
    unfold jX1_record_15
    rw [zlet_eq, zlet_eq, j42 _ (show zF (zsI (zsI sM 4 _) 5 _) 8 = nI f from h8)]
    refine ⟨_, _, rfl, fun k hk => ?_, fun n hn => ?_⟩
    · show (if 0 ≤ k ∧ k < 0 + 6 then zI sM 2 (0 + (k - 0)) else zI sM 4 k) = _
      rw [if_pos (by omega), show 0 + (k - 0) = k by omega]
    · rw [zI_o (show r ≠ 4 by omega)]
      show (if 0 ≤ n ∧ n < 0 + 10 then zI sM r (0 + (n - 0)) else _) = _
      rw [if_pos (by omega), show 0 + (n - 0) = n by omega]
  obtain ⟨A4, A5, e15, a1, a2⟩ := j15
  unfold fX1_record
  rw [h8]
  by_cases h0 : f = 0
  · rw [if_pos (show nI f = 0 by rw [h0]; rfl), e15]
    exact ⟨true, A4, A5, rfl, fun _ => rfl, fun q => absurd h0 q, fun _ => ⟨a1, a2⟩, fun q => (by cases q)⟩
  · rw [if_neg (show ¬ nI f = 0 from fun q => h0 ((nI_eq (a := f) (b := 0) (by omega) (by omega)).mp q))]
    obtain ⟨b, b1, b2⟩ := p_isBefore (sM := sM) (sP := sP) (r := r) hF hD h3
    rw [b1, Option.bind_some, zif_b]
    cases b with
    | false =>
      rw [if_neg (by decide), j42 sM h8]
      refine ⟨false, zI sM 4, zI sM 5, ?_, fun q => absurd q h0, fun _ => b2, fun q => (by cases q), fun _ => ⟨rfl, rfl⟩⟩
      rw [zsI_self, zsI_self]
    | true =>
      rw [if_pos rfl, e15]
      exact ⟨true, A4, A5, rfl, fun q => absurd q h0, fun _ => b2, fun _ => ⟨a1, a2⟩, fun q => (by cases q)⟩
