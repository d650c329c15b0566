/-! PURE: the reference's pairing -/
def zknd (x a b : Nat) : Nat := 1000000 * x + 1000 * (if b ≤ a then b else a) + (if b ≤ a then a else b)
theorem zknd_eq {x a b x' a' b' : Nat} (hx : x < 1000) (ha : a < 1000) (hb : b < 1000) (hx' : x' < 1000) (ha' : a' < 1000) (hb' : b' < 1000) : zknd x a b = zknd x' a' b' ↔ x = x' ∧ ((a = a' ∧ b = b') ∨ (a = b' ∧ b = a')) := by
  unfold zknd
  by_cases h : b ≤ a
  · by_cases h' : b' ≤ a'
    · rw [if_pos h, if_pos h, if_pos h', if_pos h']
      omega
    · rw [if_pos h, if_pos h, if_neg h', if_neg h']
      omega
  · by_cases h' : b' ≤ a'
    · rw [if_neg h, if_neg h, if_pos h', if_pos h']
      omega
    · rw [if_neg h, if_neg h, if_neg h', if_neg h']
      omega
theorem zknd_lt {x a b : Nat} (hx : x < 1000) (ha : a < 1000) (hb : b < 1000) : zknd x a b < 2 ^ 31 := by
  unfold zknd
  split <;> omega
theorem q_kind {x a b : Nat} (ha : a < 1000) (hb : b < 1000) : fX5_kind (nI x) (nI a) (nI b) = some (nI (zknd x a b)) := by
  have j10 : ∀ v, v ≤ a + b → jX5_kind_10 (nI x) (nI a) (nI b) (nI v) = some (nI (1000000 * x + 1000 * v + a + b - v)) := fun v hv => by
    unfold jX5_kind_10
    rw [show (1000000 : Int32) * nI x = nI (1000000 * x) from pk_mul 1000000 x, show (1000 : Int32) * nI v = nI (1000 * v) from pk_mul 1000 v, nI_add, nI_add, nI_add, nI_sub (by omega)]
  unfold fX5_kind zknd
  by_cases h : b ≤ a
  · rw [if_pos (zle_ok h (by omega)), if_pos h, if_pos h, j10 b (by omega)]
    congr 2
    omega
  · rw [if_neg (zlt_no (show a < b by omega) (by omega)), if_neg h, if_neg h, j10 a (by omega)]
    congr 2
    omega
section ZU
variable {s : zOS} {nG nd np F : Nat}
theorem q_kindOfDevice {d : Nat} (hF : 1000 ≤ F) (h : zpv (zI s 1) nd np) (hd : d < nd) : fX5_kindOfDevice F (nI d) s = some (nI (zknd (zsm (zdt (zdvc (zI s 1)) (zdvc (zI s 1) d 0)) nd) (zsm (zdt (zdvc (zI s 1)) (zdvc (zI s 1) d 1)) nd) (zsm (zdt (zdvc (zI s 1)) (zdvc (zI s 1) d 2)) nd))) := by
  have hnd := h.1
  have bn : ∀ n, zsm (zdt (zdvc (zI s 1)) n) nd < 1000 := fun n => by have := zsm_le (zdt_le (zdvc (zI s 1)) n) nd; omega
  obtain ⟨e0, l0⟩ := zdvc_e h hd (show 0 < 3 by decide)
  obtain ⟨e1, l1⟩ := zdvc_e h hd (show 1 < 3 by decide)
  obtain ⟨e2, l2⟩ := zdvc_e h hd (show 2 < 3 by decide)
  unfold fX5_kindOfDevice
  rw [show fX5_ofDevice (nI d) 0 s = some (zI s 1 (9 + 3 * d + 0)) from q_ofDevice (k := 0) (by omega) (by decide), show fX5_ofDevice (nI d) 1 s = some (zI s 1 (9 + 3 * d + 1)) from q_ofDevice (k := 1) (by omega) (by decide), show fX5_ofDevice (nI d) 2 s = some (zI s 1 (9 + 3 * d + 2)) from q_ofDevice (k := 2) (by omega) (by decide), e0, e1, e2, Option.bind_some, q_netHangs hF h (by omega), Option.bind_some, Option.bind_some, q_netHangs hF h (by omega), Option.bind_some, Option.bind_some, q_netHangs hF h (by omega), Option.bind_some, q_kind (bn _) (bn _), Option.bind_some]
theorem q_kindOfGate {g : Nat} (hF : 1000 ≤ F) (hn : nG ≤ 32) (h10 : zF s 10 = nI nG) (hg : g < nG) : fX5_kindOfGate F (nI g) s = some (nI (zknd (zhw (zVs s) (zqw s) (zVs s g 0) nG) (zhw (zVs s) (zqw s) (zVs s g 1) nG) (zhw (zVs s) (zqw s) (zVs s g 2) nG))) := by
  have bv : ∀ x, zhw (zVs s) (zqw s) x nG < 1000 := fun x => by have := zhw_le (zVs s) (zqw s) x nG; omega
  have qn : ∀ x, fX5_nodeHangs F x s = some (nI (zhw (zVs s) (zqw s) x nG)) := fun x => q_nodeHangs hF hn h10
  unfold fX5_kindOfGate
  rw [show fX5_ofGate (nI g) 0 s = some (zVs s g 0) from q_ofGate (by omega) (by decide), show fX5_ofGate (nI g) 1 s = some (zVs s g 1) from q_ofGate (by omega) (by decide), show fX5_ofGate (nI g) 2 s = some (zVs s g 2) from q_ofGate (by omega) (by decide), Option.bind_some, qn, Option.bind_some, Option.bind_some, qn, Option.bind_some, Option.bind_some, qn, Option.bind_some, q_kind (bv _) (bv _), Option.bind_some]
theorem q_unlike (hF : 1000 ≤ F) (h : zpv (zI s 1) nd np) (hn : nG ≤ 32) (h10 : zF s 10 = nI nG) : ∃ u n, fX5_unlike F s = some (nI nd + nI (zcount (zqw s) nG) - 2 * nI n) ∧ zgrd (zLk s nd nG) nG nd u n := by
  have hnd := h.1
  have bn : ∀ n, zsm (zdt (zdvc (zI s 1)) n) nd < 1000 := fun n => by have := zsm_le (zdt_le (zdvc (zI s 1)) n) nd; omega
  have bv : ∀ x, zhw (zVs s) (zqw s) x nG < 1000 := fun x => by have := zhw_le (zVs s) (zqw s) x nG; omega
  unfold fX5_unlike
  obtain ⟨F', p', ⟨u, n, rfl, hu⟩, -, e⟩ := zfor (B := fun kc9 (p9 : Int32 × Int32 × Int32) => bX5_unlike_6 F s kc9 p9.1 p9.2.1 p9.2.2) (fun i p => ∃ (u : Int32) (n : Nat), p = (nI n, u, nI i) ∧ zgrd (zLk s nd nG) nG i (zu u) n) nd (by
    rintro kc d p hd ⟨u, n, rfl, hu⟩
    show ∃ p', _ ∧ bX5_unlike_6 F s kc (nI n) u (nI d) = kc p'
    unfold bX5_unlike_6
    rw [zck (j := (8 : Int32)) (n := 46) 8 rfl (by decide) (by decide), show zI s 1 (8 : Int32).toNatClampNeg = nI nd from h.2.2.1, if_neg (zlt_no hd (by omega)), q_kindOfDevice hF h hd, Option.bind_some]
    have good : ∀ g, g < nG → zLk s nd nG d g → zu u g = false → (∀ g', g' < g → ¬ (zLk s nd nG d g' ∧ zu u g' = false)) → zgrd (zLk s nd nG) nG (d + 1) (zu (u ||| ((1 : Int32) <<< (nI g &&& 31)))) (n + 1) := fun g g1 g2 g3 g4 => ⟨zu u, n, hu, Or.inl ⟨g, g1, g2, g3, g4, fun j => by rw [zu_or, zu_bit (by omega)], rfl⟩⟩
    have inner := zit_wf (B := fun kc9 (p9 : Int32 × Int32 × Int32) => bX5_unlike_30 F kc (nI n) (nI d) (nI (zknd (zsm (zdt (zdvc (zI s 1)) (zdvc (zI s 1) d 0)) nd) (zsm (zdt (zdvc (zI s 1)) (zdvc (zI s 1) d 1)) nd) (zsm (zdt (zdvc (zI s 1)) (zdvc (zI s 1) d 2)) nd))) s kc9 p9.1 p9.2.1 p9.2.2)
      (fun p => (∃ g, g ≤ nG ∧ p = (u, (0 : Int32), nI g) ∧ ∀ g', g' < g → ¬ (zLk s nd nG d g' ∧ zu u g' = false)) ∨ (∃ g u', g ≤ nG ∧ p = (u', (1 : Int32), nI g) ∧ zgrd (zLk s nd nG) nG (d + 1) (zu u') (n + 1))) (fun p => 40 - p.2.2.toNatClampNeg)
      (fun o => ∃ p', (∃ (u : Int32) (n : Nat), p' = (nI n, u, nI (d + 1)) ∧ zgrd (zLk s nd nG) nG (d + 1) (zu u) n) ∧ o = kc p') (by
        rintro kc2 p (⟨g, hg, rfl, hno⟩ | ⟨g, u', hg, rfl, hz⟩)
        · show (∃ p', _ ∧ _ ∧ bX5_unlike_30 F kc (nI n) (nI d) _ s kc2 u 0 (nI g) = kc2 p') ∨ (∃ p', _ ∧ bX5_unlike_30 F kc (nI n) (nI d) _ s kc2 u 0 (nI g) = kc p')
          unfold bX5_unlike_30
          rw [h10]
          by_cases hgn : g = nG
          · right
            rw [if_pos (zle_ok (by omega) (by omega))]
            unfold jX5_unlike_102
            rw [if_pos rfl, zlet_eq, Int32.add_zero, nI_1]
            exact ⟨_, ⟨u, n, rfl, zu u, n, hu, Or.inr ⟨fun g' hg' => hno g' (by omega), fun _ => rfl, rfl⟩⟩, rfl⟩
          · left
            have hg' : g < nG := by omega
            have mu : 40 - (nI (g + 1)).toNatClampNeg < 40 - (nI g).toNatClampNeg := by rw [nI_clamp (by omega), nI_clamp (by omega)]; omega
            have stay : ¬ (zLk s nd nG d g ∧ zu u g = false) → ∃ p', ((∃ g, g ≤ nG ∧ p' = (u, (0 : Int32), nI g) ∧ ∀ g', g' < g → ¬ (zLk s nd nG d g' ∧ zu u g' = false)) ∨ (∃ g u', g ≤ nG ∧ p' = (u', (1 : Int32), nI g) ∧ zgrd (zLk s nd nG) nG (d + 1) (zu u') (n + 1))) ∧ 40 - p'.2.2.toNatClampNeg < 40 - (nI g).toNatClampNeg ∧ jX5_unlike_77 F kc kc2 u (nI g) = kc2 p' := fun hq => by
              refine ⟨(u, 0, nI (g + 1)), Or.inl ⟨g + 1, by omega, rfl, fun g' hg1 => ?_⟩, mu, ?_⟩
              · by_cases eg : g' = g
                · rw [eg]; exact hq
                · exact hno g' (by omega)
              · unfold jX5_unlike_77 jX5_unlike_78
                rw [if_pos rfl, zlet_eq, nI_1, Int32.or_zero]
            rw [if_neg (zlt_no hg' (by omega)), if_pos rfl, q_isWell (by omega), Option.bind_some, zif_b]
            cases hw : zqw s g with
            | false =>
              rw [if_neg (by decide)]
              exact stay (fun q => by have q1 := q.1.1; rw [hw] at q1; cases q1)
            | true =>
              rw [if_pos rfl, zu_sar _ (by omega), zif_b]
              cases hb : zu u g with
              | true =>
                rw [if_pos rfl]
                exact stay (fun q => by rw [hb] at q; cases q.2)
              | false =>
                rw [if_neg (by decide), q_kindOfGate hF hn h10 hg', Option.bind_some]
                have hlk : nI (zknd (zhw (zVs s) (zqw s) (zVs s g 0) nG) (zhw (zVs s) (zqw s) (zVs s g 1) nG) (zhw (zVs s) (zqw s) (zVs s g 2) nG)) = nI (zknd (zsm (zdt (zdvc (zI s 1)) (zdvc (zI s 1) d 0)) nd) (zsm (zdt (zdvc (zI s 1)) (zdvc (zI s 1) d 1)) nd) (zsm (zdt (zdvc (zI s 1)) (zdvc (zI s 1) d 2)) nd)) ↔ zLk s nd nG d g := by
                  rw [nI_eq (zknd_lt (bv _) (bv _) (bv _)) (zknd_lt (bn _) (bn _) (bn _)), zknd_eq (bv _) (bv _) (bv _) (bn _) (bn _) (bn _)]
                  unfold zLk zlkx
                  constructor
                  · rintro ⟨a1, a2⟩
                    refine ⟨hw, a1.symm, ?_⟩
                    rcases a2 with ⟨b1, b2⟩ | ⟨b1, b2⟩
                    · exact Or.inl ⟨b1.symm, b2.symm⟩
                    · exact Or.inr ⟨b2.symm, b1.symm⟩
                  · rintro ⟨-, a1, a2⟩
                    refine ⟨a1.symm, ?_⟩
                    rcases a2 with ⟨b1, b2⟩ | ⟨b1, b2⟩
                    · exact Or.inl ⟨b1.symm, b2.symm⟩
                    · exact Or.inr ⟨b2.symm, b1.symm⟩
                by_cases hL : zLk s nd nG d g
                · rw [if_pos (hlk.mpr hL)]
                  refine ⟨(u ||| ((1 : Int32) <<< (nI g &&& 31)), 1, nI (g + 1)), Or.inr ⟨g + 1, _, by omega, rfl, good g hg' hL hb hno⟩, mu, ?_⟩
                  unfold jX5_unlike_78
                  rw [if_neg (by decide), zlet_eq, nI_1]
                · rw [if_neg (fun q => hL (hlk.mp q))]
                  exact stay (fun q => hL q.1)
        · right
          show ∃ p', _ ∧ bX5_unlike_30 F kc (nI n) (nI d) _ s kc2 u' 1 (nI g) = kc p'
          unfold bX5_unlike_30 jX5_unlike_102
          rw [if_neg (show ¬ (1 : Int32) = 0 by decide), if_neg (show ¬ (1 : Int32) = 0 by decide), ite_self, zlet_eq, nI_1, nI_1]
          exact ⟨_, ⟨u', n + 1, rfl, hz⟩, rfl⟩) F (u, (0 : Int32), (0 : Int32)) (Or.inl ⟨0, by omega, rfl, fun g' hg' => by omega⟩) (by show 40 - _ < F; omega)
    exact inner) (F := F) (p := ((0 : Int32), (0 : Int32), (0 : Int32))) ⟨0, 0, rfl, fun g => zu_0 g, rfl⟩ (by omega)
  refine ⟨zu u, n, e.trans ?_, hu⟩
  show bX5_unlike_6 F s _ (nI n) u (nI nd) = _
  unfold bX5_unlike_6
  rw [zck (j := (8 : Int32)) (n := 46) 8 rfl (by decide) (by decide), show zI s 1 (8 : Int32).toNatClampNeg = nI nd from h.2.2.1, if_pos (zle_ok (Nat.le_refl nd) (by omega)), zck (j := (8 : Int32)) (n := 46) 8 rfl (by decide) (by decide), q_wells hF hn h10, Option.bind_some]
end ZU
