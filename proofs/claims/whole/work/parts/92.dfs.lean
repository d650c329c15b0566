/-! PURE: the reference goes through all choices -/
def zfm (F D K : Nat) (st : Int32) (σ : zOS) : Option zOS := zit (P := Int32 × zOS) (R := zOS) (fun kc9 p9 => bX5_findMatches_46 F (nI D) kc9 p9.1 p9.2) K (st, σ)
theorem zfm_1 {F D K : Nat} {st : Int32} {σ : zOS} : zfm F D (K + 1) st σ = bX5_findMatches_46 F (nI D) (fun p => zit (P := Int32 × zOS) (R := zOS) (fun kc9 p9 => bX5_findMatches_46 F (nI D) kc9 p9.1 p9.2) K p) st σ := rfl
/-- a bound for the steps below a choice -/
def zKb : Nat → Nat
  | 0 => 1
  | m + 1 => 12 * (1 + zKb m) + 1
section ZD
variable {s : zOS} {D G : Nat} {S0 : Nat × Int32 → Prop} {F : Nat}
/-- choices and rows tell what is chosen -/
def zst8 (s : zOS) (G : Nat) (S0 : Nat × Int32 → Prop) (gs ts : List Nat) (C T : Nat → Int32) : Prop := zpx G (zdvc (zI s 1)) (zVs s) S0 gs ts ∧ (∀ (k g t : Nat), gs[k]? = some g → ts[k]? = some t → C k = nI (2 * g + t)) ∧ ztel (fun m => T (10 * gs.length + m)) (zSt (zdvc (zI s 1)) (zVs s) S0 gs ts)
theorem zst8_keep {gs ts : List Nat} {C T C' T' : Nat → Int32} (hx : zcx s D G S0) (hl : gs.length ≤ D) (h : zst8 s G S0 gs ts C T) (hC : ∀ k, k < gs.length → C' k = C k) (hT : ∀ k, k < 10 * (gs.length + 1) → T' k = T k) : zst8 s G S0 gs ts C' T' := by
  obtain ⟨h1, h2, h3⟩ := h
  exact ⟨h1, fun k g t hg ht => by rw [hC k (zgtl hg)]; exact h2 k g t hg ht, ztel_c h3 (zpx_wf hx h1 hl) (fun n hn => hT _ (by omega))⟩
/-- the next choice that may be -/
theorem q_inner {W : Int32} {B : Nat → Int32} {gs ts : List Nat} (hF : 1000 ≤ F) (hx : zcx s D G S0) (hst : gs.length < D) : ∀ (r x K : Nat) (C T : Nat → Int32), 2 * G - x ≤ r → x ≤ 2 * G → r < K → C gs.length = nI x → zst8 s G S0 gs ts C T →
    ∃ c C' T', x ≤ c ∧ c ≤ 2 * G ∧ (∀ c', x ≤ c' → c' < c → ¬ zpx G (zdvc (zI s 1)) (zVs s) S0 (gs ++ [c' / 2]) (ts ++ [c' % 2])) ∧ (c < 2 * G → zst8 s G S0 (gs ++ [c / 2]) (ts ++ [c % 2]) C' T') ∧ C' gs.length = nI c ∧ (∀ k, k < gs.length → C' k = C k) ∧ (∀ k, k < 10 * (gs.length + 1) → T' k = T k) ∧
      ∀ kc46 : (Int32 × zOS) → Option zOS, zit (P := zOS) (R := zOS) (fun kc9 p9 => bX5_findMatches_75 F kc46 (nI gs.length) kc9 p9) K (zms s B C T W) = jX5_findMatches_117 F kc46 (nI gs.length) (zms s B C' T' W)
  | r, x, 0, C, T, _, _, hK, _, _ => absurd hK (Nat.not_lt_zero _)
  | r, x, K + 1, C, T, hr, hxG, hK, hCx, h8 => by
    obtain ⟨x1, x2, x3, x4, x5, x6, x7, x8⟩ := id hx
    have hit : ∀ kc46 : (Int32 × zOS) → Option zOS, zit (P := zOS) (R := zOS) (fun kc9 p9 => bX5_findMatches_75 F kc46 (nI gs.length) kc9 p9) (K + 1) (zms s B C T W) = (if nI (2 * G) ≤ nI x then (jX5_findMatches_117 F kc46 (nI gs.length) (zms s B C T W)) else (Option.bind (fX5_isChosen F (nI gs.length) (nI x) (zms s B C T W)) (fun r_12 : Int32 × zOS => (if r_12.1 = 0 then (zlet (zsI r_12.2 10 (upd (zI r_12.2 10) gs.length ((zI r_12.2 10 gs.length) + (1 : Int32)))) (fun sD_14 : zOS => (zit (P := zOS) (R := zOS) (fun kc9 p9 => bX5_findMatches_75 F kc46 (nI gs.length) kc9 p9) K sD_14))) else (jX5_findMatches_117 F kc46 (nI gs.length) r_12.2))))) := by
      intro kc46
      show bX5_findMatches_75 F kc46 (nI gs.length) (zit (P := zOS) (R := zOS) (fun kc9 p9 => bX5_findMatches_75 F kc46 (nI gs.length) kc9 p9) K) (zms s B C T W) = _
      generalize zit (P := zOS) (R := zOS) (fun kc9 p9 => bX5_findMatches_75 F kc46 (nI gs.length) kc9 p9) K = kc
      have zk : ∀ e : Option zOS, zchk (nI gs.length) 7 e = e := fun e => zchk_nI (by omega) (by decide)
      unfold bX5_findMatches_75
      simp only [zk, nI_clamp (show gs.length < 2 ^ 31 by omega)]
      rw [show zF (zms s B C T W) 10 = nI G from x4, show (2 : Int32) * nI G = nI (2 * G) from pk_mul 2 G, show zI (zms s B C T W) 10 = C from rfl, hCx]
    by_cases hxe : x = 2 * G
    · exact ⟨x, C, T, by omega, by omega, fun c' h1 h2 => by omega, fun h => by omega, hCx, fun _ _ => rfl, fun _ _ => rfl, fun kc46 => by rw [hit, if_pos (zle_ok (by omega) (by omega))]⟩
    · have hng : ¬ nI (2 * G) ≤ nI x := zlt_no (show x < 2 * G by omega) (by omega)
      obtain ⟨b, T', q1, q2, q3, q4⟩ := q_isChosen (B := B) (W := W) (st := gs.length) (c := x) hF hx hst (by omega) rfl h8.1 h8.2.1 h8.2.2
      cases b with
      | false =>
        obtain ⟨c, C2, T2, k1, k2, k3, k4, k5, k6, k7, k8⟩ := q_inner (W := W) (B := B) hF hx hst (r - 1) (x + 1) K (upd C gs.length (nI (x + 1))) T' (by omega) (by omega) (by omega) (zud_s _ _ _) (zst8_keep hx (by omega) h8 (fun k hk => zud_n _ _ (by omega)) q4)
        refine ⟨c, C2, T2, by omega, k2, fun c' h1 h2 => ?_, k4, k5, fun k hk => (k6 k hk).trans (zud_n _ _ (by omega)), fun k hk => (k7 k hk).trans (q4 k hk), fun kc46 => ?_⟩
        · by_cases e : c' = x
          · rw [e]; exact fun h => absurd (q2.mpr h) (by decide)
          · exact k3 c' (by omega) h2
        · rw [hit, if_neg hng, q1, Option.bind_some, if_pos (show zb false = 0 from rfl), zlet_eq, show zI (zms s B C T' W) 10 = C from rfl, zms_10, hCx, nI_1]
          exact k8 kc46
      | true =>
        refine ⟨x, C, T', by omega, by omega, fun c' h1 h2 => by omega, fun _ => ⟨q2.mp rfl, fun k g t hg ht => ?_, ?_⟩, hCx, fun _ _ => rfl, q4, fun kc46 => by rw [hit, if_neg hng, q1, Option.bind_some, if_neg (show ¬ zb true = 0 by decide)]⟩
        · rcases zap.mp hg with q | ⟨qa, qb⟩
          · rcases zap.mp ht with w | ⟨wa, wb⟩
            · exact h8.2.1 k g t q w
            · have := zgtl q; have := h8.1.1; omega
          · rw [qa, hCx, qb]
            rcases zap.mp ht with w | ⟨wa, wb⟩
            · have := zgtl w; have := h8.1.1; omega
            · rw [wb, show 2 * (x / 2) + x % 2 = x by omega]
        · rw [show (gs ++ [x / 2]).length = gs.length + 1 by simp]
          exact q3 rfl
/-- matches behind what is chosen, from the choice x on -/
noncomputable def zLF (s : zOS) (G : Nat) (S0 : Nat × Int32 → Prop) (m : Nat) (gs ts : List Nat) (x : Nat) : List (List Nat × List Nat) := (List.range' x (2 * G - x)).flatMap fun c => @ite _ (zpx G (zdvc (zI s 1)) (zVs s) S0 (gs ++ [c / 2]) (ts ++ [c % 2])) (Classical.propDecidable _) (zLR G (zdvc (zI s 1)) (zVs s) S0 m (gs ++ [c / 2]) (ts ++ [c % 2])) []
theorem zLF_0 {m : Nat} {gs ts : List Nat} : zLF s G S0 m gs ts 0 = zLR G (zdvc (zI s 1)) (zVs s) S0 (m + 1) gs ts := by
  unfold zLF
  rw [Nat.sub_zero, ← List.range_eq_range']
  rfl
theorem zLF_end {m : Nat} {gs ts : List Nat} {x : Nat} (h : 2 * G ≤ x) : zLF s G S0 m gs ts x = [] := by
  unfold zLF
  rw [show 2 * G - x = 0 by omega]
  rfl
theorem zLF_next {m : Nat} {gs ts : List Nat} {x : Nat} (h : x < 2 * G) : zLF s G S0 m gs ts x = (@ite _ (zpx G (zdvc (zI s 1)) (zVs s) S0 (gs ++ [x / 2]) (ts ++ [x % 2])) (Classical.propDecidable _) (zLR G (zdvc (zI s 1)) (zVs s) S0 m (gs ++ [x / 2]) (ts ++ [x % 2])) []) ++ zLF s G S0 m gs ts (x + 1) := by
  unfold zLF
  rw [show 2 * G - x = (2 * G - (x + 1)) + 1 by omega, List.range'_succ, List.flatMap_cons]
theorem zLF_skip {m : Nat} {gs ts : List Nat} {c : Nat} : ∀ (d x : Nat), c - x = d → x ≤ c → c ≤ 2 * G → (∀ c', x ≤ c' → c' < c → ¬ zpx G (zdvc (zI s 1)) (zVs s) S0 (gs ++ [c' / 2]) (ts ++ [c' % 2])) → zLF s G S0 m gs ts x = zLF s G S0 m gs ts c
  | 0, x, hd, hx, hc, h => by rw [show x = c by omega]
  | d + 1, x, hd, hx, hc, h => by
    rw [zLF_next (by omega), if_neg (h x (by omega) (by omega)), List.nil_append]
    exact zLF_skip d (x + 1) (by omega) (by omega) hc (fun c' h1 h2 => h c' (by omega) h2)
theorem q_dfs (hF : 1000 ≤ F) (hx : zcx s D G S0) : ∀ (m r : Nat) (gs ts : List Nat) (x : Nat) (B C T : Nat → Int32) (w : Nat) (Q : List (List Nat × List Nat)), gs.length + m = D → zst8 s G S0 gs ts C T → w = Q.length → zrs (zdvc (zI s 1)) (zVs s) S0 D Q B →
    ((m = 0 → w + 1 ≤ 10000000 → ∃ B' C' T' w', (∀ K, zfm F D (K + 1) (nI gs.length) (zms s B C T (nI w)) = zfm F D K (nI gs.length + (-1)) (zms s B' C' T' (nI w'))) ∧ (∀ k, k < gs.length → C' k = C k) ∧ (∀ k, k < 10 * (gs.length + 1) → T' k = T k) ∧ w' = (Q ++ [(gs, ts)]).length ∧ w' ≤ w + 1 ∧ zrs (zdvc (zI s 1)) (zVs s) S0 D (Q ++ [(gs, ts)]) B') ∧
     ∀ m', m = m' + 1 → x ≤ 2 * G → 2 * G - x = r → C gs.length = nI x - 1 → w + (r * (1 + zKb m') + 1) ≤ 10000000 → ∃ B' C' T' w' k, k ≤ r * (1 + zKb m') + 1 ∧ (∀ K, zfm F D (K + k) (nI gs.length) (zms s B C T (nI w)) = zfm F D K (nI gs.length + (-1)) (zms s B' C' T' (nI w'))) ∧ (∀ k, k < gs.length → C' k = C k) ∧ (∀ k, k < 10 * (gs.length + 1) → T' k = T k) ∧ w' = (Q ++ zLF s G S0 m' gs ts x).length ∧ w' ≤ w + k ∧ zrs (zdvc (zI s 1)) (zVs s) S0 D (Q ++ zLF s G S0 m' gs ts x) B') := by
  obtain ⟨x1, x2, x3, x4, x5, x6, x7, x8⟩ := id hx
  intro m
  induction m with
  | zero =>
    intro r gs ts x B C T w Q hm h8 hQ hr
    refine ⟨fun _ hw => ?_, fun m' h => by omega⟩
    obtain ⟨B', f1, f2⟩ := q_found (F := F) (T := T) hF hx (by omega) (by omega) h8.1 h8.2.1 (by rw [← (show gs.length = D by omega)]; exact h8.2.2) hQ hr
    refine ⟨B', C, T, w + 1, fun K => ?_, fun _ _ => rfl, fun _ _ => rfl, by simp [hQ], Nat.le_refl _, f2⟩
    rw [zfm_1]
    show _ = (fun p => zit (P := Int32 × zOS) (R := zOS) (fun kc9 p9 => bX5_findMatches_46 F (nI D) kc9 p9.1 p9.2) K p) (nI gs.length + (-1), zms s B' C T (nI (w + 1)))
    generalize (fun p => zit (P := Int32 × zOS) (R := zOS) (fun kc9 p9 => bX5_findMatches_46 F (nI D) kc9 p9.1 p9.2) K p) = kc
    unfold bX5_findMatches_46
    rw [if_neg (show ¬ nI gs.length < 0 from Int32.not_lt.mpr (nI_pos' (by omega))), if_pos (show nI gs.length = nI D by rw [show gs.length = D by omega]), f1, Option.bind_some]
  | succ m ihm =>
    intro r
    induction r using Nat.strongRecOn with
    | ind r ihr =>
      intro gs ts x B C T w Q hm h8 hQ hr
      refine ⟨fun h => by omega, fun m' hm' hxG hrx hCx hw => ?_⟩
      obtain rfl : m = m' := by omega
      have hst : gs.length < D := by omega
      obtain ⟨c, C1, T1, k1, k2, k3, k4, k5, k6, k7, k8⟩ := q_inner (W := nI w) (B := B) hF hx hst (2 * G - x) x F (upd C gs.length (nI x)) T (Nat.le_refl _) hxG (by omega) (zud_s _ _ _) (zst8_keep hx (by omega) h8 (fun k hk => zud_n _ _ (by omega)) (fun _ _ => rfl))
      have k6 : ∀ k, k < gs.length → C1 k = C k := fun k hk => (k6 k hk).trans (zud_n _ _ (by omega))
      have hone : ∀ K, zfm F D (K + 1) (nI gs.length) (zms s B C T (nI w)) = (if nI (2 * G) ≤ nI c then zfm F D K (nI gs.length + (-1)) (zms s B C1 T1 (nI w)) else zfm F D K (nI (gs.length + 1)) (zms s B (upd C1 (gs.length + 1) (-1)) T1 (nI w))) := by
        intro K
        rw [zfm_1]
        show _ = (if nI (2 * G) ≤ nI c then (fun p => zit (P := Int32 × zOS) (R := zOS) (fun kc9 p9 => bX5_findMatches_46 F (nI D) kc9 p9.1 p9.2) K p) (nI gs.length + (-1), zms s B C1 T1 (nI w)) else (fun p => zit (P := Int32 × zOS) (R := zOS) (fun kc9 p9 => bX5_findMatches_46 F (nI D) kc9 p9.1 p9.2) K p) (nI (gs.length + 1), zms s B (upd C1 (gs.length + 1) (-1)) T1 (nI w)))
        generalize (fun p => zit (P := Int32 × zOS) (R := zOS) (fun kc9 p9 => bX5_findMatches_46 F (nI D) kc9 p9.1 p9.2) K p) = kc
        unfold bX5_findMatches_46
        rw [if_neg (show ¬ nI gs.length < 0 from Int32.not_lt.mpr (nI_pos' (by omega))), if_neg (show ¬ nI gs.length = nI D from fun q => by have := (nI_eq (by omega) (by omega)).mp q; omega), zchk_nI (show gs.length < 7 by omega) (by decide), zchk_nI (show gs.length < 7 by omega) (by decide), zlet_eq, nI_clamp (show gs.length < 2 ^ 31 by omega), show zI (zms s B C T (nI w)) 10 = C from rfl, zms_10, hCx, Int32.sub_add_cancel, k8]
        unfold jX5_findMatches_117
        rw [zchk_nI (show gs.length < 7 by omega) (by decide), nI_clamp (show gs.length < 2 ^ 31 by omega), show zI (zms s B C1 T1 (nI w)) 10 = C1 from rfl, k5, show zF (zms s B C1 T1 (nI w)) 10 = nI G from x4, show (2 : Int32) * nI G = nI (2 * G) from pk_mul 2 G, nI_1, zchk_nI (show gs.length + 1 < 7 by omega) (by decide), zlet_eq, nI_clamp (show gs.length + 1 < 2 ^ 31 by omega), zms_10]
      rw [zLF_skip (c := c) _ x rfl k1 k2 k3]
      by_cases hcG : c = 2 * G
      · refine ⟨B, C1, T1, w, 1, by omega, fun K => ?_, k6, k7, ?_, by omega, ?_⟩
        · rw [hone, if_pos (zle_ok (by omega) (by omega))]
        · rw [zLF_end (by omega), List.append_nil]; exact hQ
        · rw [zLF_end (by omega), List.append_nil]; exact hr
      · have hc : c < 2 * G := by omega
        have h8c := k4 hc
        have hlen : (gs ++ [c / 2]).length = gs.length + 1 := by simp
        have h8' : zst8 s G S0 (gs ++ [c / 2]) (ts ++ [c % 2]) (upd C1 (gs.length + 1) (-1)) T1 := zst8_keep hx (by omega) h8c (fun k hk => zud_n _ _ (by omega)) (fun _ _ => rfl)
        have hr1 : 1 ≤ r := by omega
        have hmul : (1 + zKb m) + (2 * G - (c + 1)) * (1 + zKb m) ≤ r * (1 + zKb m) := by
          have h1 : (2 * G - (c + 1) + 1) * (1 + zKb m) ≤ r * (1 + zKb m) := Nat.mul_le_mul_right _ (by omega)
          rw [Nat.succ_mul] at h1
          omega
        obtain ⟨B2, C2, T2, w2, j2, s1, s2, s3, s4, s5, s6, s7⟩ : ∃ B2 C2 T2 w2 j2, j2 ≤ zKb m ∧ (∀ K, zfm F D (K + j2) (nI (gs.length + 1)) (zms s B (upd C1 (gs.length + 1) (-1)) T1 (nI w)) = zfm F D K (nI (gs.length + 1) + (-1)) (zms s B2 C2 T2 (nI w2))) ∧ (∀ k, k < gs.length + 1 → C2 k = upd C1 (gs.length + 1) (-1) k) ∧ (∀ k, k < 10 * (gs.length + 1 + 1) → T2 k = T1 k) ∧ w2 = (Q ++ zLR G (zdvc (zI s 1)) (zVs s) S0 m (gs ++ [c / 2]) (ts ++ [c % 2])).length ∧ w2 ≤ w + j2 ∧ zrs (zdvc (zI s 1)) (zVs s) S0 D (Q ++ zLR G (zdvc (zI s 1)) (zVs s) S0 m (gs ++ [c / 2]) (ts ++ [c % 2])) B2 := by
          have ih := ihm (2 * G) (gs ++ [c / 2]) (ts ++ [c % 2]) 0 B (upd C1 (gs.length + 1) (-1)) T1 w Q (by omega) h8' hQ hr
          rw [hlen] at ih
          cases m with
          | zero =>
            obtain ⟨B2, C2, T2, w2, s2, s3, s4, s5, s6, s7⟩ := ih.1 rfl (by omega)
            exact ⟨B2, C2, T2, w2, 1, Nat.le_refl _, s2, s3, s4, s5, s6, s7⟩
          | succ m2 =>
            have hb : 2 * G * (1 + zKb m2) ≤ 12 * (1 + zKb m2) := Nat.mul_le_mul_right _ (by omega)
            have hz : zKb (m2 + 1) = 12 * (1 + zKb m2) + 1 := rfl
            obtain ⟨B2, C2, T2, w2, j2, s1, s2, s3, s4, s5, s6, s7⟩ := ih.2 m2 rfl (by omega) (by omega) (zud_s _ _ _) (by omega)
            rw [zLF_0] at s5 s7
            exact ⟨B2, C2, T2, w2, j2, by omega, s2, s3, s4, s5, s6, s7⟩
        have h8b : zst8 s G S0 gs ts C2 T2 := zst8_keep hx (by omega) h8 (fun k hk => by rw [s3 k (by omega), zud_n _ _ (by omega)]; exact k6 k hk) (fun k hk => by rw [s4 k (by omega)]; exact k7 k hk)
        obtain ⟨B3, C3, T3, w3, j3, u1, u2, u3, u4, u5, u6, u7⟩ := (ihr (2 * G - (c + 1)) (by omega) gs ts (c + 1) B2 C2 T2 w2 (Q ++ zLR G (zdvc (zI s 1)) (zVs s) S0 m (gs ++ [c / 2]) (ts ++ [c % 2])) hm h8b s5 s7).2 m rfl (by omega) rfl (by rw [s3 _ (by omega), zud_n _ _ (by omega), k5, nI_pred]) (by omega)
        rw [zLF_next hc, if_pos h8c.1, ← List.append_assoc]
        refine ⟨B3, C3, T3, w3, j3 + j2 + 1, by omega, fun K => ?_, fun k hk => ?_, fun k hk => ?_, u5, by omega, u7⟩
        · rw [show K + (j3 + j2 + 1) = K + j3 + j2 + 1 by omega, hone, if_neg (zlt_no hc (by omega)), s2, nI_pr, u2]
        · rw [u3 k hk, s3 k (by omega), zud_n _ _ (by omega)]; exact k6 k hk
        · rw [u4 k hk, s4 k (by omega)]; exact k7 k hk
end ZD
