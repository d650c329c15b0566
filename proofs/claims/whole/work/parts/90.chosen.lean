/-! PURE: the reference's choices -/
def zVs (s : zOS) (j k : Nat) : Int32 := zI s 8 (6 * j + k)
def zcx (s : zOS) (D G : Nat) (S0 : Nat × Int32 → Prop) : Prop := D ≤ 6 ∧ G ≤ 6 ∧ zI s 1 8 = nI D ∧ zF s 10 = nI G ∧ (∀ j, j < G → zqw s j = true) ∧ (∀ j k, j < G → k < 3 → ¬ zVs s j k = -1) ∧ (∀ i k, i < D → k < 3 → zI s 1 (9 + 3 * i + k) = nI (zdvc (zI s 1) i k) ∧ zdvc (zI s 1) i k < 10) ∧ zwf S0
theorem zSt_wf {G D : Nat} {dv : Nat → Nat → Nat} {V : Nat → Nat → Int32} {S0 : Nat × Int32 → Prop} {gs ts : List Nat} (hd : ∀ i k, i < D → k < 3 → dv i k < 10) (hV : ∀ j k, j < G → k < 3 → ¬ V j k = -1) (h0 : zwf S0) (hg : ∀ g, g ∈ gs → g < G) (hl : gs.length ≤ D) (ht : ∀ (i t : Nat), ts[i]? = some t → t < 2) : zwf (zSt dv V S0 gs ts) := by
  rintro p ((h | ⟨i, g, h1, rfl⟩) | ⟨i, g, t, h1, h2, h3⟩)
  · exact h0 p h
  · exact ⟨hd i 0 (by have := zgtl h1; omega) (by decide), hV g 0 (hg g (List.mem_of_getElem? h1)) (by decide)⟩
  · have hi : i < D := by have := zgtl h1; omega
    have hgg := hg g (List.mem_of_getElem? h1)
    have ht2 := ht i t h2
    rcases h3 with rfl | rfl
    · exact ⟨hd i 1 hi (by decide), hV g (1 + t) hgg (by omega)⟩
    · exact ⟨hd i 2 hi (by decide), hV g (2 - t) hgg (by omega)⟩
theorem zpx_wf {s : zOS} {D G : Nat} {S0 : Nat × Int32 → Prop} (hx : zcx s D G S0) {gs ts : List Nat} (h : zpx G (zdvc (zI s 1)) (zVs s) S0 gs ts) (hl : gs.length ≤ D) : zwf (zSt (zdvc (zI s 1)) (zVs s) S0 gs ts) := by
  obtain ⟨x1, x2, x3, x4, x5, x6, x7, x8⟩ := hx
  refine zSt_wf (fun i k hi hk => (x7 i k hi hk).2) x6 x8 h.2.1 hl (fun i t ht => ?_)
  obtain ⟨g, hg⟩ := zgsome (l := gs) (i := i) (by have := zgtl ht; have := h.1; omega)
  exact (h.2.2.2.1 i g t hg ht).1
theorem nI_2 {c : Nat} (hc : c < 2 ^ 31) : nI c / (2 : Int32) = nI (c / 2) := pk_div (d := 2) hc (by decide) (by decide)
theorem nI_r2 {c : Nat} (hc : c < 2 ^ 31) : nI c - nI (c / 2) * (2 : Int32) = nI (c % 2) := by
  have := zrm (i := c) (d := 2) hc (by decide) (by decide)
  rw [pk_div hc (by decide) (by decide)] at this
  exact this
section ZC
variable {s : zOS} {D G : Nat} {S0 : Nat × Int32 → Prop} {B C T : Nat → Int32} {W : Int32} {F : Nat}
theorem q_chosen46 {st c : Nat} (hF : 1000 ≤ F) (hx : zcx s D G S0) (hc : c < 2 * G) : ∃ b0, fX5_isChosen F (nI st) (nI c) (zms s B C T W) = jX5_isChosen_46 F (nI st) (nI c) (nI (c / 2)) (zVs s (c / 2) 1) (zVs s (c / 2) 2) (zb b0) (zms s B C T W) ∧ (b0 = true ↔ (c % 2 = 0 ∨ ¬ zVs s (c / 2) 1 = zVs s (c / 2) 2)) := by
  obtain ⟨x1, x2, x3, x4, x5, x6, x7, x8⟩ := hx
  unfold fX5_isChosen jX5_isChosen_45 jX5_isChosen_41
  rw [zdvk_ok (show ¬ (2 : Int32) = 0 by decide), zlet_eq, nI_2 (show c < 2 ^ 31 by omega), nI_r2 (show c < 2 ^ 31 by omega), show fX5_ofGate (nI (c / 2)) 1 (zms s B C T W) = some (zVs s (c / 2) 1) from q_ofGate (by omega) (by decide), Option.bind_some, show fX5_ofGate (nI (c / 2)) 2 (zms s B C T W) = some (zVs s (c / 2) 2) from q_ofGate (by omega) (by decide), Option.bind_some, show fX5_isWell (nI (c / 2)) (zms s B C T W) = some (zb (zqw s (c / 2))) from q_isWell (by omega), Option.bind_some, x5 (c / 2) (by omega), if_neg (show ¬ zb true = 0 by decide), zdvk_ok (show ¬ (2 : Int32) = 0 by decide)]
  by_cases h0 : c % 2 = 0
  · rw [if_pos (show nI (c % 2) = 0 by rw [h0]; rfl)]
    exact ⟨true, rfl, ⟨fun _ => Or.inl h0, fun _ => rfl⟩⟩
  · rw [if_neg (show ¬ nI (c % 2) = 0 from fun q => h0 ((nI_eq (a := c % 2) (b := 0) (by omega) (by omega)).mp q))]
    by_cases e : zVs s (c / 2) 1 = zVs s (c / 2) 2
    · rw [if_pos e]
      exact ⟨false, rfl, ⟨fun h => (by cases h), fun h => by
        rcases h with h | h
        · exact absurd h h0
        · exact absurd e h⟩⟩
    · rw [if_neg e]
      exact ⟨true, rfl, ⟨fun _ => Or.inr e, fun _ => rfl⟩⟩
theorem q_chosen51 {st c : Nat} {b0 : Bool} {x4 x5 : Int32} {gs ts : List Nat} (hF : 1000 ≤ F) (hst : st ≤ 6) (hc : c < 2 * G) (hG : G ≤ 6) (hl : gs.length = st) (hlt : ts.length = st) (ht : ∀ (i t : Nat), ts[i]? = some t → t < 2) (hgG : ∀ g, g ∈ gs → g < G) (hC : ∀ (k g t : Nat), gs[k]? = some g → ts[k]? = some t → C k = nI (2 * g + t)) :
    ∃ b1, jX5_isChosen_46 F (nI st) (nI c) (nI (c / 2)) x4 x5 (zb b0) (zms s B C T W) = zit (P := Int32 × zOS) (R := Int32 × zOS) (fun kc9 p9 => bX5_isChosen_91 F (nI st) (nI c) (nI (c / 2)) x4 x5 (zb b1) kc9 p9.1 p9.2) F ((0 : Int32), zms s B C T W) ∧ (b1 = true ↔ b0 = true ∧ c / 2 ∉ gs) := by
  unfold jX5_isChosen_46
  obtain ⟨F', p', ⟨b, rfl, hb⟩, -, e⟩ := zfor (B := fun kc9 (p9 : Int32 × Int32) => bX5_isChosen_51 F (nI st) (nI c) (nI (c / 2)) x4 x5 (zms s B C T W) kc9 p9.1 p9.2) (fun i p => ∃ b, p = (zb b, nI i) ∧ (b = true ↔ b0 = true ∧ ∀ k : Nat, k < i → ¬ gs[k]? = some (c / 2))) st (by
    rintro kc i p hi ⟨b, rfl, hb⟩
    show ∃ p', _ ∧ bX5_isChosen_51 F (nI st) (nI c) (nI (c / 2)) x4 x5 (zms s B C T W) kc (zb b) (nI i) = kc p'
    obtain ⟨g, hg⟩ := zgsome (l := gs) (i := i) (by omega)
    obtain ⟨t, htt⟩ := zgsome (l := ts) (i := i) (by omega)
    have hgb := hgG g (List.mem_of_getElem? hg)
    have ht2 := ht i t htt
    unfold bX5_isChosen_51
    rw [if_neg (zlt_no hi (by omega)), zif_b, nI_1, zchk_nI (show i < 7 by omega) (by decide), zdvk_ok (show ¬ (2 : Int32) = 0 by decide), nI_clamp (show i < 2 ^ 31 by omega), show zI (zms s B C T W) 10 = C from rfl, hC i g t hg htt, nI_2 (show 2 * g + t < 2 ^ 31 by omega), show (2 * g + t) / 2 = g by omega]
    cases b with
    | false => exact ⟨_, ⟨false, rfl, ⟨fun h => (by cases h), fun h => absurd (hb.mpr ⟨h.1, fun k hk => h.2 k (by omega)⟩) (by decide)⟩⟩, rfl⟩
    | true =>
      rw [if_pos rfl]
      by_cases eg : g = c / 2
      · rw [if_pos (by rw [eg])]
        exact ⟨_, ⟨false, rfl, ⟨fun h => (by cases h), fun h => absurd (by rw [hg, eg]) (h.2 i (by omega))⟩⟩, rfl⟩
      · rw [if_neg (fun q => eg ((nI_eq (by omega) (by omega)).mp q))]
        refine ⟨_, ⟨true, rfl, ⟨fun _ => ⟨(hb.mp rfl).1, fun k hk => ?_⟩, fun _ => rfl⟩⟩, rfl⟩
        by_cases ek : k = i
        · rw [ek, hg]
          intro q
          exact eg (Option.some.inj q)
        · exact (hb.mp rfl).2 k (by omega)) (F := F) (p := (zb b0, (0 : Int32))) ⟨b0, rfl, ⟨fun h => ⟨h, fun k hk => by omega⟩, fun h => h.1⟩⟩ (by omega)
  rw [e]
  show ∃ b1, bX5_isChosen_51 F (nI st) (nI c) (nI (c / 2)) x4 x5 (zms s B C T W) _ (zb b) (nI st) = _ ∧ _
  unfold bX5_isChosen_51
  rw [if_pos (zle_ok (Nat.le_refl st) (by omega))]
  refine ⟨b, rfl, ?_⟩
  rw [hb]
  constructor
  · rintro ⟨h1, h2⟩
    refine ⟨h1, fun hm => ?_⟩
    obtain ⟨i, hi⟩ := List.mem_iff_getElem?.mp hm
    exact h2 i (by have := zgtl hi; omega) hi
  · rintro ⟨h1, h2⟩
    exact ⟨h1, fun k hk q => h2 (List.mem_of_getElem? q)⟩
theorem q_chosen91 {st c g : Nat} {x4 x5 x6 : Int32} (hF : 1000 ≤ F) (hst : st < 6) : ∃ T1 kc, zit (P := Int32 × zOS) (R := Int32 × zOS) (fun kc9 p9 => bX5_isChosen_91 F (nI st) (nI c) (nI g) x4 x5 x6 kc9 p9.1 p9.2) F ((0 : Int32), zms s B C T W) = bX5_isChosen_91 F (nI st) (nI c) (nI g) x4 x5 x6 kc (nI 10) (zms s B C T1 W) ∧ (∀ m, m < 10 → T1 (10 * (st + 1) + m) = T (10 * st + m)) ∧ ∀ k, k < 10 * (st + 1) → T1 k = T k := by
  obtain ⟨F', p', ⟨T1, rfl, h1, h2⟩, -, e⟩ := zfor (B := fun kc9 (p9 : Int32 × zOS) => bX5_isChosen_91 F (nI st) (nI c) (nI g) x4 x5 x6 kc9 p9.1 p9.2) (fun i p => ∃ T1, p = (nI i, zms s B C T1 W) ∧ (∀ m, m < i → T1 (10 * (st + 1) + m) = T (10 * st + m)) ∧ ∀ k, k < 10 * (st + 1) → T1 k = T k) 10 (by
    rintro kc i p hi ⟨T1, rfl, h1, h2⟩
    refine ⟨(nI (i + 1), zms s B C (upd T1 (10 * (st + 1) + i) (T1 (10 * st + i))) W), ⟨_, rfl, fun m hm => ?_, fun k hk => ?_⟩, ?_⟩
    · by_cases e : m = i
      · subst e; rw [zud_s]; exact h2 _ (by omega)
      · rw [zud_n _ _ (by omega)]; exact h1 m (by omega)
    · rw [zud_n _ _ (by omega)]; exact h2 k hk
    · show bX5_isChosen_91 F (nI st) (nI c) (nI g) x4 x5 x6 kc (nI i) (zms s B C T1 W) = _
      unfold bX5_isChosen_91
      rw [if_neg (show ¬ (10 : Int32) ≤ nI i from zlt_no (n := 10) hi (by decide)), nI_1, nI_1, zmu (m := (10 : Int32)) (c := 10) rfl, zmu (m := (10 : Int32)) (c := 10) rfl, zchk_nI (show 10 * st + i < 70 by omega) (by decide), zchk_nI (show 10 * (st + 1) + i < 70 by omega) (by decide), zlet_eq, nI_clamp (show 10 * st + i < 2 ^ 31 by omega), nI_clamp (show 10 * (st + 1) + i < 2 ^ 31 by omega), show zI (zms s B C T1 W) 11 = T1 from rfl, zms_11]) (F := F) (p := ((0 : Int32), zms s B C T W)) ⟨T, rfl, fun k hk => by omega, fun _ _ => rfl⟩ (by omega)
  exact ⟨T1, _, e, h1, h2⟩
theorem q_isChosen {st c : Nat} {gs ts : List Nat} (hF : 1000 ≤ F) (hx : zcx s D G S0) (hst : st < D) (hc : c < 2 * G) (hl : gs.length = st) (hp : zpx G (zdvc (zI s 1)) (zVs s) S0 gs ts) (hC : ∀ (k g t : Nat), gs[k]? = some g → ts[k]? = some t → C k = nI (2 * g + t)) (hT : ztel (fun m => T (10 * st + m)) (zSt (zdvc (zI s 1)) (zVs s) S0 gs ts)) :
    ∃ b T', fX5_isChosen F (nI st) (nI c) (zms s B C T W) = some (zb b, zms s B C T' W) ∧ (b = true ↔ zpx G (zdvc (zI s 1)) (zVs s) S0 (gs ++ [c / 2]) (ts ++ [c % 2])) ∧ (b = true → ztel (fun m => T' (10 * (st + 1) + m)) (zSt (zdvc (zI s 1)) (zVs s) S0 (gs ++ [c / 2]) (ts ++ [c % 2]))) ∧ ∀ k, k < 10 * (st + 1) → T' k = T k := by
  obtain ⟨x1, x2, x3, x4, x5, x6, x7, x8⟩ := id hx
  obtain ⟨p1, p2, p3, p4, p5⟩ := id hp
  have hts : ∀ (i t : Nat), ts[i]? = some t → t < 2 := fun i t ht => by
    obtain ⟨g, hg⟩ := zgsome (l := gs) (i := i) (by have := zgtl ht; omega)
    exact (p4 i g t hg ht).1
  obtain ⟨b0, e0, h0⟩ := q_chosen46 (st := st) (B := B) (C := C) (T := T) (W := W) hF hx hc
  obtain ⟨b1, e1, h1⟩ := q_chosen51 (s := s) (B := B) (C := C) (T := T) (W := W) (b0 := b0) (x4 := zVs s (c / 2) 1) (x5 := zVs s (c / 2) 2) hF (show st ≤ 6 by omega) hc x2 hl (by omega) hts p2 hC
  obtain ⟨T1, kc, e2, t1, t2⟩ := q_chosen91 (s := s) (B := B) (C := C) (T := T) (W := W) (st := st) (c := c) (g := c / 2) (x4 := zVs s (c / 2) 1) (x5 := zVs s (c / 2) 2) (x6 := zb b1) hF (by omega)
  rw [e0, e1, e2]
  unfold bX5_isChosen_91
  rw [if_pos (show (10 : Int32) ≤ nI 10 from zle_ok (Nat.le_refl 10) (by decide)), zif_b]
  have hstep := zpx_step G (zdvc (zI s 1)) (zVs s) S0 (g := c / 2) (t := c % 2) hp
  cases b1 with
  | false =>
    refine ⟨false, T1, rfl, ⟨fun h => (by cases h), fun h => ?_⟩, fun h => (by cases h), t2⟩
    obtain ⟨k1, k2, k3, k4, k5⟩ := hstep.mp h
    exact h1.mpr ⟨h0.mpr k4, k2⟩
  | true =>
    obtain ⟨g0, g2⟩ := h1.mp rfl
    have g4 := h0.mp g0
    have hpz : zpx G (zdvc (zI s 1)) (zVs s) S0 (gs ++ [c / 2]) (ts ++ [c % 2]) ↔ zcon (zSt (zdvc (zI s 1)) (zVs s) S0 (gs ++ [c / 2]) (ts ++ [c % 2])) := by
      rw [hstep]
      exact ⟨fun h => h.2.2.2.2, fun h => ⟨by omega, g2, by omega, g4, h⟩⟩
    rw [hpz, zSt_gt (zdvc (zI s 1)) (zVs s) S0 (c / 2) (c % 2) p1, hl]
    have hT1 : ztel (fun m => T1 (10 * (st + 1) + m)) (zSt (zdvc (zI s 1)) (zVs s) S0 gs ts) := ztel_c hT (zpx_wf hx hp (by omega)) (fun n hn => t1 n hn)
    obtain ⟨d0, dl0⟩ := x7 st 0 hst (by decide)
    obtain ⟨d1, dl1⟩ := x7 st 1 hst (by decide)
    obtain ⟨d2, dl2⟩ := x7 st 2 hst (by decide)
    have w0 := zpx_wf hx hp (by omega)
    have w1 := zwf_add (p := (zdvc (zI s 1) st 0, zVs s (c / 2) 0)) w0 dl0 (x6 (c / 2) 0 (by omega) (by decide))
    have w2 := zwf_add (p := (zdvc (zI s 1) st 1, zVs s (c / 2) (1 + c % 2))) w1 dl1 (x6 (c / 2) (1 + c % 2) (by omega) (by omega))
    obtain ⟨b2, T2, q1, q2, q3, q4⟩ := q_put (s := s) (B := B) (C := C) (T := T1) (W := W) (st := st + 1) (v := zVs s (c / 2) 0) hF (by omega) dl0 (x6 (c / 2) 0 (by omega) (by decide)) w0 p5 hT1
    have t2' : ∀ k, k < 10 * (st + 1) → T2 k = T k := fun k hk => (q4 k (by omega)).trans (t2 k hk)
    rw [if_pos rfl, show fX5_ofDevice (nI st) 0 (zms s B C T1 W) = some (zI s 1 (9 + 3 * st + 0)) from q_ofDevice (k := 0) (by omega) (by decide), Option.bind_some, d0, show fX5_ofGate (nI (c / 2)) 0 (zms s B C T1 W) = some (zVs s (c / 2) 0) from q_ofGate (by omega) (by decide), Option.bind_some, nI_1, q1, Option.bind_some]
    cases b2 with
    | false =>
      rw [if_pos (show zb false = 0 from rfl)]
      exact ⟨false, T2, rfl, ⟨fun h => (by cases h), fun h => q2.mpr (zcon_add (zcon_add h))⟩, fun h => (by cases h), t2'⟩
    | true =>
      have c1 := q2.mp rfl
      have hT2 := q3 rfl
      rw [if_neg (show ¬ zb true = 0 by decide), show fX5_ofDevice (nI st) 1 (zms s B C T2 W) = some (zI s 1 (9 + 3 * st + 1)) from q_ofDevice (k := 1) (by omega) (by decide), Option.bind_some, d1, zdvk_ok (show ¬ (2 : Int32) = 0 by decide), nI_2 (show c < 2 ^ 31 by omega), nI_r2 (show c < 2 ^ 31 by omega)]
      have fin : ∀ va vb : Int32, va = zVs s (c / 2) (1 + c % 2) → vb = zVs s (c / 2) (2 - c % 2) → (∀ σ, jX5_isChosen_180 F (nI st) (nI c) (zVs s (c / 2) 1) (zVs s (c / 2) 2) va (nI (zdvc (zI s 1) st 1)) (nI (st + 1)) σ = Option.bind (fX5_isPut F (nI (st + 1)) (nI (zdvc (zI s 1) st 1)) va σ) (fun r_16 : Int32 × zOS => (if r_16.1 = 0 then (zbk (0 : Int32) (some ((0 : Int32), r_16.2))) else (Option.bind (fX5_ofDevice (nI st) (2 : Int32) r_16.2) (fun r_18 : Int32 => jX5_isChosen_209 F vb r_18 (nI (st + 1)) r_16.2))))) →
          ∃ b T', jX5_isChosen_180 F (nI st) (nI c) (zVs s (c / 2) 1) (zVs s (c / 2) 2) va (nI (zdvc (zI s 1) st 1)) (nI (st + 1)) (zms s B C T2 W) = some (zb b, zms s B C T' W) ∧ (b = true ↔ zcon (zadp (zadp (zadp (zSt (zdvc (zI s 1)) (zVs s) S0 gs ts) (zdvc (zI s 1) st 0, zVs s (c / 2) 0)) (zdvc (zI s 1) st 1, zVs s (c / 2) (1 + c % 2))) (zdvc (zI s 1) st 2, zVs s (c / 2) (2 - c % 2)))) ∧ (b = true → ztel (fun m => T' (10 * (st + 1) + m)) (zadp (zadp (zadp (zSt (zdvc (zI s 1)) (zVs s) S0 gs ts) (zdvc (zI s 1) st 0, zVs s (c / 2) 0)) (zdvc (zI s 1) st 1, zVs s (c / 2) (1 + c % 2))) (zdvc (zI s 1) st 2, zVs s (c / 2) (2 - c % 2)))) ∧ ∀ k, k < 10 * (st + 1) → T' k = T k := by
        intro va vb hva hvb hj
        subst hva hvb
        obtain ⟨b3, T3, r1, r2, r3, r4⟩ := q_put (s := s) (B := B) (C := C) (T := T2) (W := W) (st := st + 1) (v := zVs s (c / 2) (1 + c % 2)) hF (by omega) dl1 (x6 (c / 2) (1 + c % 2) (by omega) (by omega)) w1 c1 hT2
        have t3' : ∀ k, k < 10 * (st + 1) → T3 k = T k := fun k hk => (r4 k (by omega)).trans (t2' k hk)
        rw [hj, r1, Option.bind_some]
        cases b3 with
        | false =>
          rw [if_pos (show zb false = 0 from rfl)]
          exact ⟨false, T3, rfl, ⟨fun h => (by cases h), fun h => r2.mpr (zcon_add h)⟩, fun h => (by cases h), t3'⟩
        | true =>
          obtain ⟨b4, T4, u1, u2, u3, u4⟩ := q_put (s := s) (B := B) (C := C) (T := T3) (W := W) (st := st + 1) (v := zVs s (c / 2) (2 - c % 2)) hF (by omega) dl2 (x6 (c / 2) (2 - c % 2) (by omega) (by omega)) w2 (r2.mp rfl) (r3 rfl)
          rw [if_neg (show ¬ zb true = 0 by decide), show fX5_ofDevice (nI st) 2 (zms s B C T3 W) = some (zI s 1 (9 + 3 * st + 2)) from q_ofDevice (k := 2) (by omega) (by decide), Option.bind_some, d2]
          unfold jX5_isChosen_209
          rw [u1, Option.bind_some]
          refine ⟨b4, T4, ?_, u2, u3, fun k hk => (u4 k (by omega)).trans (t3' k hk)⟩
          cases b4 <;> rfl
      by_cases hc0 : c % 2 = 0
      · rw [if_pos (show nI (c % 2) = 0 by rw [hc0]; rfl)]
        refine fin _ (zVs s (c / 2) 2) (by rw [hc0]) (by rw [hc0]) (fun σ => ?_)
        unfold jX5_isChosen_180
        have zd : ∀ e : Option (Int32 × zOS), zdvk (2 : Int32) e = e := fun e => zdvk_ok (by decide)
        have hh : nI (c % 2) = 0 := by rw [hc0]; rfl
        simp only [zd, nI_2 (show c < 2 ^ 31 by omega), nI_r2 (show c < 2 ^ 31 by omega), hh, if_true, nI_1]
      · have hc1 : c % 2 = 1 := by omega
        rw [if_neg (show ¬ nI (c % 2) = 0 by rw [hc1]; decide)]
        refine fin _ (zVs s (c / 2) 1) (by rw [hc1]) (by rw [hc1]) (fun σ => ?_)
        unfold jX5_isChosen_180
        have zd : ∀ e : Option (Int32 × zOS), zdvk (2 : Int32) e = e := fun e => zdvk_ok (by decide)
        have hh : ¬ nI (c % 2) = 0 := by rw [hc1]; decide
        simp only [zd, nI_2 (show c < 2 ^ 31 by omega), nI_r2 (show c < 2 ^ 31 by omega), hh, if_false, nI_1]
end ZC
