/-! PURE: orders are done alike; does -/
theorem n5 {j x : Nat} : (5 : Int32) * nI j + nI x = nI (5 * j + x) := zmu (m := (5 : Int32)) (c := 5) rfl
theorem zorder1 {sT sP sD : zOS} {F j w : Nat} {fig : Nat → Int32} (hF : 1000 ≤ F) (hj : j ≤ 75) (hp : zpl sP (zI sD 1)) (hw : zfg (zI sD 13 j) = some w) (hfig : ∀ y, y < w → fig y = zI sD 14 (5 * j + y)) :
    ∃ r sP' a', fX3_performOne F (zI sD 13 j) (zsI sT 2 fig) sP = some (r, sP') ∧ fX5_doOrder F (nI j) sD = some (r, zsI sD 1 a') ∧ zpl sP' a' := by
  have hdo : fX5_doOrder F (nI j) sD = (if zI sD 13 j = (100 : Int32) then fX5_paint F (zI sD 14 (5 * j + 0)) (zI sD 14 (5 * j + 1)) (zI sD 14 (5 * j + 2)) (zI sD 14 (5 * j + 3)) (zI sD 14 (5 * j + 4)) (1 : Int32) sD else (if zI sD 13 j = (109 : Int32) then fX5_doMeans (zI sD 14 (5 * j + 0)) (zI sD 14 (5 * j + 1)) (zI sD 14 (5 * j + 2)) sD else (if zI sD 13 j = (112 : Int32) then fX5_doPins (zI sD 14 (5 * j + 0)) (zI sD 14 (5 * j + 1)) (zI sD 14 (5 * j + 2)) sD else (if zI sD 13 j = (114 : Int32) then fX5_paint F (zI sD 14 (5 * j + 0)) (zI sD 14 (5 * j + 1)) (zI sD 14 (5 * j + 2)) (zI sD 14 (5 * j + 3)) (zI sD 14 (5 * j + 4)) (0 : Int32) sD else fX5_doForgets sD)))) := by
    have bb : ∀ e : Option (Int32 × zOS), Option.bind e (fun r_5 : Int32 × zOS => some (r_5.1, r_5.2)) = e := fun e => by cases e <;> rfl
    unfold fX5_doOrder
    rw [show (5 : Int32) * nI j = nI (5 * j + 0) from pk_mul 5 j, show nI (5 * j + 0) + (1 : Int32) = nI (5 * j + 1) from nI_add (5 * j) 1, show nI (5 * j + 0) + (2 : Int32) = nI (5 * j + 2) from nI_add (5 * j) 2, show nI (5 * j + 0) + (3 : Int32) = nI (5 * j + 3) from nI_add (5 * j) 3, show nI (5 * j + 0) + (4 : Int32) = nI (5 * j + 4) from nI_add (5 * j) 4,
      zchk_nI (show 5 * j + 0 < 400 by omega) (by decide), zlet_eq, zchk_nI (show 5 * j + 1 < 400 by omega) (by decide), zlet_eq, zchk_nI (show 5 * j + 2 < 400 by omega) (by decide), zlet_eq, zchk_nI (show j < 80 by omega) (by decide), zchk_nI (show 5 * j + 3 < 400 by omega) (by decide), zchk_nI (show 5 * j + 3 < 400 by omega) (by decide), zchk_nI (show 5 * j + 4 < 400 by omega) (by decide), zchk_nI (show 5 * j + 4 < 400 by omega) (by decide), nI_clamp (show 5 * j + 0 < 2 ^ 31 by omega), nI_clamp (show 5 * j + 1 < 2 ^ 31 by omega), nI_clamp (show 5 * j + 2 < 2 ^ 31 by omega), nI_clamp (show 5 * j + 3 < 2 ^ 31 by omega), nI_clamp (show 5 * j + 4 < 2 ^ 31 by omega), nI_clamp (show j < 2 ^ 31 by omega)]
    simp only [bb]
  have hpo : fX3_performOne F (zI sD 13 j) (zsI sT 2 fig) sP = (if zI sD 13 j = (100 : Int32) then fX2_paint F (fig 0) (fig 1) (fig 2) (fig 3) (fig 4) sP else (if zI sD 13 j = (102 : Int32) then fX2_dropMeant sP else (if zI sD 13 j = (109 : Int32) then fX2_addDevice (fig 0) (fig 1) (fig 2) sP else (if zI sD 13 j = (112 : Int32) then fX2_addPin (fig 0) (fig 1) (fig 2) sP else (if zI sD 13 j = (114 : Int32) then fX2_erase F (fig 0) (fig 1) (fig 2) (fig 3) (fig 4) sP else some (-2, sP)))))) := by
    have bb : ∀ e : Option (Int32 × zOS), Option.bind e (fun r_5 : Int32 × zOS => some (r_5.1, r_5.2)) = e := fun e => by cases e <;> rfl
    have k0 : ∀ e : Option (Int32 × zOS), zchk (0 : Int32) 5 e = e := fun e => zck 0 rfl (by decide) (by decide)
    have k1 : ∀ e : Option (Int32 × zOS), zchk (1 : Int32) 5 e = e := fun e => zck 1 rfl (by decide) (by decide)
    have k2 : ∀ e : Option (Int32 × zOS), zchk (2 : Int32) 5 e = e := fun e => zck 2 rfl (by decide) (by decide)
    have k3 : ∀ e : Option (Int32 × zOS), zchk (3 : Int32) 5 e = e := fun e => zck 3 rfl (by decide) (by decide)
    have k4 : ∀ e : Option (Int32 × zOS), zchk (4 : Int32) 5 e = e := fun e => zck 4 rfl (by decide) (by decide)
    unfold fX3_performOne
    simp only [bb, k0, k1, k2, k3, k4]
    rfl
  rw [hdo, hpo]
  generalize hc : zI sD 13 j = c at *
  unfold zfg at hw
  by_cases c1 : c = 100
  · rw [if_pos c1] at hw; cases hw
    rw [if_pos c1, if_pos c1, hfig 0 (by decide), hfig 1 (by decide), hfig 2 (by decide), hfig 3 (by decide), hfig 4 (by decide)]
    obtain ⟨r, sP', a', k1, k2, k3, -⟩ := zpl_paint (x1 := zI sD 14 (5 * j + 0)) (x := zI sD 14 (5 * j + 1)) (y := zI sD 14 (5 * j + 2)) (w := zI sD 14 (5 * j + 3)) (h := zI sD 14 (5 * j + 4)) hF hp
    exact ⟨r, sP', a', k1, k2, k3⟩
  · rw [if_neg c1] at hw
    rw [if_neg c1, if_neg c1]
    by_cases c2 : c = 102
    · rw [if_pos c2] at hw; cases hw
      rw [if_pos c2, if_neg (by rw [c2]; decide), if_neg (by rw [c2]; decide), if_neg (by rw [c2]; decide)]
      obtain ⟨r, sP', a', k1, k2, k3, -⟩ := zpl_forgets hp
      exact ⟨r, sP', a', k1, k2, k3⟩
    · rw [if_neg c2] at hw
      rw [if_neg c2]
      by_cases c3 : c = 109
      · rw [if_pos c3] at hw; cases hw
        rw [if_pos c3, if_pos c3, hfig 0 (by decide), hfig 1 (by decide), hfig 2 (by decide)]
        obtain ⟨r, sP', a', k1, k2, k3, -⟩ := zpl_means (x := zI sD 14 (5 * j + 0)) (y := zI sD 14 (5 * j + 1)) (z := zI sD 14 (5 * j + 2)) hp
        exact ⟨r, sP', a', k1, k2, k3⟩
      · rw [if_neg c3] at hw
        rw [if_neg c3, if_neg c3]
        by_cases c4 : c = 112
        · rw [if_pos c4] at hw; cases hw
          rw [if_pos c4, if_pos c4, hfig 0 (by decide), hfig 1 (by decide), hfig 2 (by decide)]
          obtain ⟨r, sP', a', k1, k2, k3, -⟩ := zpl_pins (x := zI sD 14 (5 * j + 0)) (y := zI sD 14 (5 * j + 1)) (z := zI sD 14 (5 * j + 2)) hp
          exact ⟨r, sP', a', k1, k2, k3⟩
        · rw [if_neg c4] at hw
          rw [if_neg c4, if_neg c4]
          by_cases c5 : c = 114
          · rw [if_pos c5] at hw; cases hw
            rw [if_pos c5, if_pos c5, hfig 0 (by decide), hfig 1 (by decide), hfig 2 (by decide), hfig 3 (by decide), hfig 4 (by decide)]
            obtain ⟨r, sP', a', k1, k2, k3, -⟩ := zpl_erase (x1 := zI sD 14 (5 * j + 0)) (x := zI sD 14 (5 * j + 1)) (y := zI sD 14 (5 * j + 2)) (w := zI sD 14 (5 * j + 3)) (h := zI sD 14 (5 * j + 4)) hF hp
            exact ⟨r, sP', a', k1, k2, k3⟩
          · rw [if_neg c5] at hw; cases hw
theorem q_restore {sD : zOS} {x : Int32} {F : Nat} (hF : 1000 ≤ F) : ∃ A, zit (P := Int32 × zOS) (R := Int32 × zOS) (fun kc9 p9 => bX5_does_94 F x kc9 p9.1 p9.2) F ((0 : Int32), sD) = some (-1000 - x, zsI sD 1 A) ∧ ∀ k, k < 46 → A k = zI sD 2 k := by
  obtain ⟨F', p', ⟨A, rfl, hA⟩, -, e⟩ := zfor (B := fun kc9 (p9 : Int32 × zOS) => bX5_does_94 F x kc9 p9.1 p9.2) (fun i p => ∃ A, p = (nI i, zsI sD 1 A) ∧ ∀ k, k < i → A k = zI sD 2 k) 46 (by
    rintro kc i p hi ⟨A, rfl, hA⟩
    refine ⟨(nI (i + 1), zsI sD 1 (upd A i (zI sD 2 i))), ⟨_, rfl, fun k hk => ?_⟩, ?_⟩
    · by_cases e : k = i
      · subst e; exact zud_s _ _ _
      · rw [zud_n _ _ e]; exact hA k (by omega)
    · show bX5_does_94 F x kc (nI i) (zsI sD 1 A) = _
      unfold bX5_does_94
      rw [if_neg (show ¬ (46 : Int32) ≤ nI i from zlt_no (n := 46) hi (by decide)), zchk_nI hi (by decide), zchk_nI hi (by decide), zlet_eq, nI_clamp (show i < 2 ^ 31 by omega), nI_1]
      show kc (nI (i + 1), zsI (zsI sD 1 A) 1 (upd A i (zI sD 2 i))) = _
      rw [zsI_I]) (F := F) (p := ((0 : Int32), sD)) ⟨zI sD 1, by rw [zsI_self]; rfl, fun k hk => by omega⟩ (by omega)
  refine ⟨A, e.trans ?_, hA⟩
  show bX5_does_94 F x _ (nI 46) (zsI sD 1 A) = _
  unfold bX5_does_94
  rw [if_pos (show (46 : Int32) ≤ nI 46 from zle_ok (Nat.le_refl 46) (by decide))]
theorem zdo_all {sT sD : zOS} {n m F : Nat} {t : Nat → Int32} (hF : 1000 ≤ F) (hn : n ≤ 150) (hT : zF sT 2 = nI n) (ht : ∀ i, i < n → zI sT 1 i = t i) (hm : m ≤ 75) (hend : zsk t n (zpos t n m) = n) (hpm : zpos t n m ≤ n) (hrec : ∀ j, j < m → zrec t n j (zI sD 13) (zI sD 14)) (h22 : zF sD 22 = nI m) (KC : Nat) : ∀ (d j : Nat) (fig : Nat → Int32) (sP : zOS) (a : Nat → Int32) (g l : Int32) (K : Nat), m - j ≤ d → j ≤ m → d < K → zpl sP a →
    (∃ q fig' sP' A, q < m ∧ zpf F (KC + (n + 1 - zpos t n j)) (nI j) g l (zpos t n j) (zsI sT 2 fig) sP = some (-1000 - nI q, zsI sT 2 fig', sP') ∧ zit (P := Int32 × zOS) (R := Int32 × zOS) (fun kc9 p9 => bX5_does_76 F kc9 p9.1 p9.2) K (nI j, zsI sD 1 a) = some (-1000 - nI q, zsI sD 1 A) ∧ ∀ k, k < 46 → A k = zI sD 2 k) ∨
    (∃ fig' sP' a', zpl sP' a' ∧ zpf F (KC + (n + 1 - zpos t n j)) (nI j) g l (zpos t n j) (zsI sT 2 fig) sP = some (nI m, zsI sT 2 fig', sP') ∧ zit (P := Int32 × zOS) (R := Int32 × zOS) (fun kc9 p9 => bX5_does_76 F kc9 p9.1 p9.2) K (nI j, zsI sD 1 a) = Option.bind (fX5_push F (zsI sD 1 a')) (fun r_10 : zOS => (some (zF r_10 22, r_10))))
  | d, j, fig, sP, a, g, l, 0, _, _, hK, _ => absurd hK (Nat.not_lt_zero _)
  | d, j, fig, sP, a, g, l, K + 1, hd, hj, hK, hp => by
    have hit : zit (P := Int32 × zOS) (R := Int32 × zOS) (fun kc9 p9 => bX5_does_76 F kc9 p9.1 p9.2) (K + 1) (nI j, zsI sD 1 a) = (if nI m ≤ nI j then (Option.bind (fX5_push F (zsI sD 1 a)) (fun r_10 : zOS => (some (zF r_10 22, r_10)))) else (Option.bind (fX5_doOrder F (nI j) (zsI sD 1 a)) (fun r_12 : Int32 × zOS => (if 0 ≤ r_12.1 then zit (P := Int32 × zOS) (R := Int32 × zOS) (fun kc9 p9 => bX5_does_76 F kc9 p9.1 p9.2) K (nI (j + 1), r_12.2) else (zit (P := Int32 × zOS) (R := Int32 × zOS) (fun kc9 p9 => bX5_does_94 F (nI j) kc9 p9.1 p9.2) F ((0 : Int32), r_12.2)))))) := by
      show bX5_does_76 F _ (nI j) (zsI sD 1 a) = _
      unfold bX5_does_76
      rw [show zF (zsI sD 1 a) 22 = nI m from h22, nI_1]
    rw [hit]
    by_cases ej : j = m
    · right
      subst ej
      rw [if_pos (zle_ok (Nat.le_refl j) (by omega))]
      refine ⟨fig, sP, a, hp, ?_, rfl⟩
      rw [zpf_skip (sT := zsI sT 2 fig) hn hT ht KC _ _ (Nat.le_refl _) hpm, hend, show KC + (n + 1 - n) = KC + 1 by omega, zpf_end (sT := zsI sT 2 fig) hn hT]
    · have hjm : j < m := by omega
      obtain ⟨r1, r2, r3, r4, r5⟩ := hrec j hjm
      obtain ⟨w, fig', g', w1, w2, w3⟩ := zpf_order (F := F) (sP := sP) (x := nI j) (g := g) (l := l) (fig := fig) hn hT ht KC r2 r1 r3
      rw [if_neg (zlt_no hjm (by omega)), w3, ← r4]
      obtain ⟨r, sP', a', k1, k2, k3⟩ := zorder1 (sT := sT) (sP := sP) (sD := zsI sD 1 a) (fig := fig') (w := w) hF (show j ≤ 75 by omega) hp (show zfg (zI sD 13 j) = some w by rw [r4]; exact w1) (fun y hy => (w2 y hy).trans (r5 y w w1 hy).symm)
      rw [show fX3_performOne F (zI sD 13 j) (zsI sT 2 fig') sP = some (r, sP') from k1, k2, Option.bind_some, Option.bind_some, zsI_I]
      by_cases h0 : 0 ≤ r
      · rw [if_pos h0, if_pos h0, nI_1]
        have hd1 : ∃ d', d = d' + 1 := ⟨d - 1, by omega⟩
        obtain ⟨d', rfl⟩ := hd1
        exact zdo_all hF hn hT ht hm hend hpm hrec h22 KC d' (j + 1) fig' sP' a' g' (zI sD 13 j) K (by omega) (by omega) (by omega) k3
      · left
        rw [if_neg h0, if_neg h0]
        obtain ⟨A, b1, b2⟩ := q_restore (sD := zsI sD 1 a') (x := nI j) (F := F) hF
        refine ⟨j, fig', sP', A, hjm, rfl, ?_, b2⟩
        rw [b1, zsI_I]
theorem zneg_all : ∀ q, q < 76 → ¬ (0 : Int32) ≤ -1000 - nI q := by decide +kernel
def zResT (sX sL sD : zOS) (c : Option (Int32 × zOS × zOS × zOS × zOS × zSS)) (q : Option (Int32 × zOS)) : Prop := ∃ r sX' sT' sP' sB' S' sD', c = some (r, sX', sT', sP', sB', S') ∧ q = some (r, sD') ∧ zRc sX' sT' sL sP' S' sD' ∧ zcs sX sX' sD sD'
theorem zsim_rd {s : zOS} {a f o : Int32} {L N : Nat → Int32} : zsim s (zrd s a f o L N) := ⟨fun _ _ => rfl, rfl, rfl, rfl, rfl, rfl, rfl, rfl, rfl, rfl⟩
theorem zo_does {sX sT sL sP sB : zOS} {sSS : zSS} {sD : zOS} {F : Nat} (hF : 1000 ≤ F) (hR : zRc sX sT sL sP sSS sD) : zResT sX sL sD (fX4_does F sX sT sP sB sSS) (fX5_does F sD) := by
  obtain ⟨r1, r2, r3, r4, r5⟩ := id hR
  obtain ⟨n, hn, hT, h19, htx⟩ := id r4
  have ht : ∀ i, i < n → zI sT 1 i = zI sD 12 i := fun i hi => (htx i hi).1
  have hz : ∀ i, i < n → zin (zI sD 12 i) 128 = true := fun i hi => (htx i hi).2
  unfold fX4_does fX5_does
  rw [zlet_eq, zlet_eq, zlet_eq, zrd_s, show (0 : Int32) = nI 0 from rfl, q_here hF hn h19 (Nat.zero_le n), Option.bind_some]
  obtain ⟨KC, hKC⟩ : ∃ KC, F = KC + (n + 1 - 0) := ⟨F - (n + 1), by omega⟩
  have hff : fX3_findFault F sT = zff F sT (KC + (n + 1 - 0)) (-1) (nI 0) 0 := by rw [← hKC]; rfl
  rw [hff]
  have rfl10 : ∀ (f : Nat) (a o : Int32) (L N : Nat → Int32), zResT sX sL sD (some ((-10 : Int32) - nI f, sX, sT, sP, sB, sSS)) (some (-10 - nI f, zrd sD a (nI f) o L N)) := fun f a o L N => ⟨_, _, _, _, _, _, _, rfl, rfl, ⟨r1, r2, r3, r4, r5⟩, Or.inr ⟨rfl, zsim_rd⟩⟩
  by_cases h0 : zsk (zI sD 12) n 0 = n
  · rw [if_pos (show zcr (zI sD 12) n 0 = -1 from if_neg (by omega)), zff_skip hn hT ht KC _ _ (Nat.le_refl _) (Nat.zero_le n), h0, show KC + (n + 1 - n) = KC + 1 by omega, zff_end hn hT, if_pos rfl, if_pos (show nI 0 ≤ 0 by decide), Option.bind_some, if_neg (nI_ne1 (by omega)), show ∀ a f o L N, zF (zrd sD a f o L N) 19 = nI n from fun _ _ _ _ _ => h19]
    exact ⟨_, _, _, _, _, _, _, rfl, rfl, ⟨r1, r2, r3, r4, r5⟩, Or.inr ⟨rfl, zsim_rd⟩⟩
  · have hs : zsk (zI sD 12) n 0 < n := by have := (zsk_p (t := zI sD 12) (Nat.zero_le n)).2.1; omega
    obtain ⟨c, hc, e⟩ := (zin_iff (n := 128) (by decide)).mp (hz _ hs)
    rw [if_neg (show ¬ zcr (zI sD 12) n 0 = -1 by unfold zcr; rw [if_pos hs, e]; exact nI_ne1 (by omega))]
    rcases zread_all (s := sD) hF hn h19 hT ht hz KC n 0 (zI sD 13) (zI sD 14) F (zsk (zI sD 12) n 0) (by omega) (Nat.zero_le n) (Nat.le_refl _) (fun j hj => by omega) (by omega) (by omega) (zsk_i (Nat.zero_le n)) with ⟨f, a, o, L, N, f1, f2, f3⟩ | ⟨m, L, N, m1, m2, m3, m4, m5, m6, m7⟩
    · rw [show zff F sT (KC + (n + 1 - 0)) (-1) (nI 0) 0 = some (nI f) from f2, Option.bind_some, if_neg (nI_ne1 (by omega)), f3]
      exact rfl10 f a o L N
    · have hm0 : ¬ m = 0 := fun q => by subst q; exact h0 m3
      rw [show zff F sT (KC + (n + 1 - 0)) (-1) (nI 0) 0 = _ from m6, if_neg hm0, Option.bind_some, if_pos rfl, m7]
      obtain ⟨rB, t1, t2⟩ := p_take (sP := sB) (sO := sP)
      obtain ⟨h, g1, g2⟩ := q_hold (sD := zrd sD (nI n) (-1) (nI m) L N) hF
      unfold jX5_does_54
      rw [show zF (zrd sD (nI n) (-1) (nI m) L N) 21 = -1 from rfl, if_pos rfl, g1, Option.bind_some, t1, Option.bind_some]
      have hpf : fX3_perform F sT sP = zpf F (KC + (n + 1 - zpos (zI sD 12) n 0)) (nI 0) 0 32 (zpos (zI sD 12) n 0) (zsI sT 2 (zI sT 2)) sP := by
        rw [zsI_self, show KC + (n + 1 - zpos (zI sD 12) n 0) = F from hKC.symm]
        rfl
      rw [hpf]
      have hnow : zsI (zrd sD (nI n) (-1) (nI m) L N) 2 h = zsI (zsI (zrd sD (nI n) (-1) (nI m) L N) 2 h) 1 (zI sD 1) := (zsI_self (zsI (zrd sD (nI n) (-1) (nI m) L N) 2 h) 1).symm
      rw [hnow]
      rcases zdo_all (sT := sT) (sD := zsI (zrd sD (nI n) (-1) (nI m) L N) 2 h) (t := zI sD 12) hF hn hT ht m2 m3 m4 m5 rfl KC m 0 (zI sT 2) sP (zI sD 1) 0 32 F (by omega) (Nat.zero_le m) (by omega) r1 with ⟨q, fig, sP', A, q1, q2, q3, q4⟩ | ⟨fig, sP', a', q1, q2, q3⟩
      · rw [q2, show zit (P := Int32 × zOS) (R := Int32 × zOS) (fun kc9 p9 => bX5_does_76 F kc9 p9.1 p9.2) F ((0 : Int32), zsI (zsI (zrd sD (nI n) (-1) (nI m) L N) 2 h) 1 (zI sD 1)) = _ from q3, Option.bind_some, zlet_eq, if_neg (show ¬ nI 0 ≤ -1000 - nI q from zneg_all q (by omega))]
        obtain ⟨rP, u1, u2⟩ := p_take (sP := sP') (sO := rB)
        rw [u1, Option.bind_some]
        have hA : ∀ k, k < 46 → zI sD 1 k = A k := fun k hk => ((q4 k hk).trans (g2 k hk)).symm
        exact ⟨_, _, _, _, _, _, _, rfl, rfl, ⟨zpl_congr hA (u2 _ (t2 _ r1)), r2, r3, r4, r5⟩, Or.inr ⟨rfl, fun k hk => (hA k hk).symm, rfl, rfl, rfl, rfl, rfl, rfl, rfl, rfl, rfl⟩⟩
      · rw [q2, show zit (P := Int32 × zOS) (R := Int32 × zOS) (fun kc9 p9 => bX5_does_76 F kc9 p9.1 p9.2) F ((0 : Int32), zsI (zsI (zrd sD (nI n) (-1) (nI m) L N) 2 h) 1 (zI sD 1)) = _ from q3, Option.bind_some, zlet_eq, if_pos (show nI 0 ≤ nI m from nI_pos' (show m < 2 ^ 31 by omega))]
        obtain ⟨sX', S', sD', k1, k2, k3, k4, k5, k6⟩ := zsettle_ok (sX := sX) (sT := zsI sT 2 fig) (sL := sL) (sP' := sP') (sB := rB) (sSS := sSS) (sD := zsI (zsI (zrd sD (nI n) (-1) (nI m) L N) 2 h) 1 a') (r := nI m) hF (nI_pos' (show m < 2 ^ 31 by omega)) q1 r2 r3 r4 r5 (zpl_congr (fun k hk => (g2 k hk).symm) (t2 _ r1))
        rw [k1, k2, Option.bind_some, Option.bind_some, k6]
        exact ⟨_, _, _, _, _, _, _, rfl, rfl, k3, Or.inl ⟨k4, k5⟩⟩
