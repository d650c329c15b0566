/-! PURE: the class's nodes number the wires with their cuts -/
theorem zcount_nth {p : Nat → Bool} : ∀ {n k : Nat}, k < zcount p n → ∃ i, i < n ∧ p i = true ∧ zcount p i = k
  | 0, k, h => absurd h (Nat.not_lt_zero k)
  | n + 1, k, h => by
    rw [zcount_next] at h
    rcases Nat.lt_or_ge k (zcount p n) with q | q
    · obtain ⟨i, h1, h2⟩ := zcount_nth q
      exact ⟨i, by omega, h2⟩
    · cases e : p n with
      | false => rw [e] at h; simp at h; omega
      | true => rw [e] at h; simp at h; exact ⟨n, by omega, e, by omega⟩
theorem zadj_ft {b : Nat → Nat → Bool} {p q : Nat} (h : zadj b false p q) : zadj b true p q := by
  rcases h with h | ⟨h, -⟩
  · exact Or.inl h
  · cases h
theorem zcn_ft {w : Nat → Bool} {b : Nat → Nat → Bool} {p q : Nat} (h : zcn w (zadj b false) p q) : zcn w (zadj b true) p q := fun S h1 h2 => h S h1 (fun x y hx wx wy hxy => h2 x y hx wx wy (zadj_ft hxy))
theorem zwr_at {b : Nat → Nat → Bool} {l c : Nat} (hc : c < 64) (h : zwr b (64 * l + c) = true) : (l = 0 ∧ b 1 c = false) ∨ (l = 1 ∧ b 1 c = true) ∨ (l = 2 ∧ b 2 c = true) := by
  unfold zwr at h
  rcases (show l = 0 ∨ l = 1 ∨ l = 2 ∨ 3 ≤ l by omega) with rfl | rfl | rfl | hl
  · rw [if_pos (by omega), Bool.and_eq_true, show 64 * 0 + c = c by omega] at h
    exact Or.inl ⟨rfl, by cases e : b 1 c with | false => rfl | true => rw [e] at h; cases h.2⟩
  · rw [if_neg (by omega), if_pos (by omega), show 64 * 1 + c - 64 = c by omega] at h
    exact Or.inr (Or.inl ⟨rfl, h⟩)
  · rw [if_neg (by omega), if_neg (by omega), if_pos (by omega), show 64 * 2 + c - 128 = c by omega] at h
    exact Or.inr (Or.inr ⟨rfl, h⟩)
  · rw [if_neg (by omega), if_neg (by omega), if_neg (by omega)] at h; cases h
theorem zand3 {x y z : Int64} : ¬ x &&& (y &&& z) = 0 ↔ ∃ c, c < 64 ∧ zt x c = true ∧ zt y c = true ∧ zt z c = true := by
  rw [zt_ne0]
  constructor
  · rintro ⟨c, hc, h⟩
    rw [zt_and, zt_and, Bool.and_eq_true, Bool.and_eq_true] at h
    exact ⟨c, hc, h⟩
  · rintro ⟨c, hc, h⟩
    exact ⟨c, hc, by rw [zt_and, zt_and, Bool.and_eq_true, Bool.and_eq_true]; exact h⟩
theorem znodes {s σ : zOS} {m : Nat} {lab : Nat → Option Nat} {P : Nat → Int64} {Y : Nat → Int32} {g : Nat → Nat} (hσ3 : zI σ 3 = Y) (hσ2 : zL σ 2 = P) (hσ1 : zL σ 1 = zL s 1) (hm96 : m ≤ 96)
    (hlab : zlab 192 (zwr (zlb s)) (zadj (zlb s) false) lab m) (hpi : zpi m P Y lab) (hg : zuf σ m g) (hjoin : ∀ i j, i < m → j < i → zjr σ i j → g i = g j) :
    zlab 192 (zwr (zlb s)) (zadj (zlb s) true) (fun p => (lab p).map (znu g)) (zcount (fun k => decide (g k = k)) m) := by
  subst hσ3 hσ2
  obtain ⟨a, b, c, d, e, f⟩ := hlab
  obtain ⟨g1, g2, g3⟩ := hg
  have nul : ∀ j, j < m → znu g j < zcount (fun k => decide (g k = k)) m := fun j hj => by
    have h1 := g1 j hj
    exact zcount_lt2 (by omega) (decide_eq_true (g2 j hj))
  have isw : ∀ p j, p < 192 → lab p = some j → zwr (zlb s) p = true ∧ j < m := fun p j hp hj => by
    cases ew : zwr (zlb s) p with
    | false => rw [a p hp ew] at hj; cases hj
    | true =>
      obtain ⟨k, hk, hk2⟩ := b p hp ew
      rw [hj] at hk2
      have := Option.some.inj hk2
      exact ⟨rfl, by omega⟩
  -- a metal piece comes behind those below
  have later : ∀ i j, i < m → j < m → zI σ 3 i = 2 → ¬ zI σ 3 j = 2 → j < i := fun i j hi hj hY hY' => by
    obtain ⟨li, l1, l2, l3, -⟩ := hpi i hi
    obtain ⟨lj, k1, k2, k3, -⟩ := hpi j hj
    have hli : li = 2 := by rw [hY] at l2; exact ((nI_eq (show li < 2 ^ 31 by omega) (show 2 < 2 ^ 31 by omega)).mp l2.symm)
    have hlj : lj < 2 := by
      rcases (show lj < 2 ∨ lj = 2 by omega) with q | q
      · exact q
      · exact absurd (by rw [k2, q]; rfl) hY'
    obtain ⟨p, p1, p2, p3⟩ := e j hj
    have h1 := (k3 p p1 p3).1
    rcases Nat.lt_trichotomy j i with q | q | q
    · exact q
    · subst q; exact absurd hY hY'
    · obtain ⟨p', q1, q2, q3⟩ := f p j p1 p2 p3 i q
      have := (l3 p' (by omega) q3).1
      omega
  -- a cut between metal and below
  have cut : ∀ p q, p < 192 → q < 192 → zwr (zlb s) p = true → zwr (zlb s) q = true → p / 64 = 2 → q / 64 < 2 → p % 64 = q % 64 → zlb s 3 (p % 64) = true → ∀ i j, lab p = some i → lab q = some j → g i = g j := fun p q hp hq wp wq p2 q2 hpq hcut i j hi hj => by
    obtain ⟨-, him⟩ := isw p i hp hi
    obtain ⟨-, hjm⟩ := isw q j hq hj
    obtain ⟨li, l1, l2, l3, -⟩ := hpi i him
    obtain ⟨lj, k1, k2, k3, -⟩ := hpi j hjm
    obtain ⟨r1, r2⟩ := l3 p hp hi
    obtain ⟨t1, t2⟩ := k3 q hq hj
    have hYi : zI σ 3 i = 2 := by rw [l2, ← r1, p2]; rfl
    have hYj : ¬ zI σ 3 j = 2 := by
      rw [k2, show (2 : Int32) = nI 2 from rfl, nI_eq (by omega) (by omega)]
      omega
    refine hjoin i j him (later i j him hjm hYi hYj) ⟨hYi, hYj, zand3.mpr ⟨p % 64, by omega, ?_, r2, ?_⟩⟩
    · rw [hpq]; exact t2
    · rw [hσ1]; exact hcut
  refine ⟨fun p hp hw => by show (lab p).map _ = none; rw [a p hp hw]; rfl, fun p hp hw => ?_, fun p q hp hq wp wq hpq => ?_, fun p q hp hq wp wq hpq => ?_, fun k hk => ?_, fun p k hp hw hk k' hk' => ?_⟩
  · obtain ⟨k, h1, h2⟩ := b p hp hw
    exact ⟨znu g k, nul k h1, by show (lab p).map _ = _; rw [h2]; rfl⟩
  · show (lab p).map (znu g) = (lab q).map (znu g)
    rcases hpq with h1 | ⟨-, h2, h3, h4⟩
    · rw [c p q hp hq wp wq (Or.inl h1)]
    · obtain ⟨i, hi, hi2⟩ := b p hp wp
      obtain ⟨j, hj, hj2⟩ := b q hq wq
      rw [hi2, hj2]
      show some (znu g i) = some (znu g j)
      have hgg : g i = g j := by
        have wp' := wp
        have wq' := wq
        rw [show p = 64 * (p / 64) + p % 64 by omega] at wp'
        rw [show q = 64 * (q / 64) + q % 64 by omega] at wq'
        have zp := zwr_at (by omega) wp'
        have zq := zwr_at (by omega) wq'
        rw [← h2] at zq
        by_cases ep : p / 64 = 2
        · by_cases eq : q / 64 = 2
          · have : p = q := by omega
            subst this
            rw [hi2] at hj2; rw [Option.some.inj hj2]
          · exact cut p q hp hq wp wq ep (by omega) h2 h3 i j hi2 hj2
        · by_cases eq : q / 64 = 2
          · exact (cut q p hq hp wq wp eq (by omega) h2.symm (by rw [← h2]; exact h3) j i hj2 hi2).symm
          · have : p / 64 = q / 64 := by
              rcases zp with ⟨z1, z2⟩ | ⟨z1, z2⟩ | ⟨z1, z2⟩
              · rcases zq with ⟨y1, y2⟩ | ⟨y1, y2⟩ | ⟨y1, y2⟩
                · omega
                · rw [z2] at y2; cases y2
                · exact absurd y1 eq
              · rcases zq with ⟨y1, y2⟩ | ⟨y1, y2⟩ | ⟨y1, y2⟩
                · rw [z2] at y2; cases y2
                · omega
                · exact absurd y1 eq
              · exact absurd z1 ep
            have : p = q := by omega
            subst this
            rw [hi2] at hj2; rw [Option.some.inj hj2]
      unfold znu
      rw [hgg]
  · have hpq : (lab p).map (znu g) = (lab q).map (znu g) := hpq
    obtain ⟨i, hi, hi2⟩ := b p hp wp
    obtain ⟨j, hj, hj2⟩ := b q hq wq
    rw [hi2, hj2] at hpq
    have hnu : znu g i = znu g j := Option.some.inj hpq
    have hgg : g i = g j := by
      unfold znu at hnu
      rcases Nat.lt_trichotomy (g i) (g j) with z | z | z
      · have := zcount_lt2 (p := fun k => decide (g k = k)) z (decide_eq_true (g2 i hi)); omega
      · exact z
      · have := zcount_lt2 (p := fun k => decide (g k = k)) z (decide_eq_true (g2 j hj)); omega
    have hs : ∀ x y, zja σ x y → zja σ y x := fun x y z => Or.symm z
    have cij : zcn (fun k => decide (k < m)) (zja σ) i j := by
      refine zcn_trans (g3 i hi) ?_
      rw [hgg]
      exact zcn_symm hs (g3 j hj)
    have lift : ∀ k, k < m → ∀ x y, x < 192 → y < 192 → lab x = some k → lab y = some k → zcn (zwr (zlb s)) (zadj (zlb s) true) x y := fun k hk x y hx hy h1 h2 =>
      zcn_ft (d x y hx hy (isw x k hx h1).1 (isw y k hy h2).1 (by rw [h1, h2]))
    have half : ∀ x y, x < m → y < m → zjr σ x y → ∃ pm pl, pm < 192 ∧ pl < 192 ∧ lab pm = some x ∧ lab pl = some y ∧ zadj (zlb s) true pm pl := fun x y hx hy ⟨r1, r2, r3⟩ => by
      obtain ⟨lx, l1, l2, -, l4⟩ := hpi x hx
      obtain ⟨ly, k1, k2, -, k4⟩ := hpi y hy
      obtain ⟨cc, c1, c2, c3, c4⟩ := zand3.mp r3
      have hlx : lx = 2 := by rw [r1] at l2; exact ((nI_eq (show lx < 2 ^ 31 by omega) (show 2 < 2 ^ 31 by omega)).mp l2.symm)
      subst hlx
      have w1 := (isw _ x (by omega) (l4 cc c3)).1
      have w2 := zwr_at c1 w1
      refine ⟨64 * 2 + cc, 64 * ly + cc, by omega, by omega, l4 cc c3, k4 cc c2, Or.inr ⟨rfl, by omega, ?_, ?_⟩⟩
      · rw [show (64 * 2 + cc) % 64 = cc by omega]; show zt (zL s 1 3) cc = true; rw [← hσ1]; exact c4
      · rw [show (64 * 2 + cc) % 64 = cc by omega]
        rcases w2 with ⟨z, -⟩ | ⟨z, -⟩ | ⟨-, z⟩
        · cases z
        · cases z
        · exact z
    have all := cij (fun k => k < m ∧ ∀ y, y < 192 → lab y = some k → zcn (zwr (zlb s)) (zadj (zlb s) true) p y) ⟨hi, fun y hy h2 => lift i hi p y hp hy hi2 h2⟩ (fun x y ⟨hx, hxa⟩ _ wy hxy => by
      have hy : y < m := of_decide_eq_true wy
      refine ⟨hy, fun z hz hlz => ?_⟩
      rcases hxy with r | r
      · obtain ⟨pm, pl, q1, q2, q3, q4, q5⟩ := half x y hx hy r
        exact zcn_trans (zcn_step (hxa pm q1 q3) (isw pm x q1 q3).1 (isw pl y q2 q4).1 q5) (lift y hy pl z q2 hz q4 hlz)
      · obtain ⟨pm, pl, q1, q2, q3, q4, q5⟩ := half y x hy hx r
        exact zcn_trans (zcn_step (hxa pl q2 q4) (isw pl x q2 q4).1 (isw pm y q1 q3).1 (zadj_sym q5)) (lift y hy pm z q1 hz q3 hlz))
    exact all.2 q hq hj2
  · obtain ⟨i, h1, h2, h3⟩ := zcount_nth hk
    have h2 : g i = i := of_decide_eq_true h2
    obtain ⟨p, p1, p2, p3⟩ := e i h1
    refine ⟨p, p1, p2, ?_⟩
    show (lab p).map _ = _
    rw [p3]
    show some (znu g i) = some k
    unfold znu
    rw [h2, h3]
  · have hk : (lab p).map (znu g) = some k := hk
    obtain ⟨i, hi, hi2⟩ := b p hp hw
    rw [hi2] at hk
    have hk : znu g i = k := Option.some.inj hk
    obtain ⟨i', h1, h2, h3⟩ := zcount_nth (p := fun k => decide (g k = k)) (n := g i) (k := k') (by unfold znu at hk; omega)
    have h2 : g i' = i' := of_decide_eq_true h2
    have h4 := g1 i hi
    obtain ⟨p', q1, q2, q3⟩ := f p i hp hw hi2 i' (by omega)
    refine ⟨p', q1, q2, ?_⟩
    show (lab p').map _ = _
    rw [q3]
    show some (znu g i') = some k'
    unfold znu
    rw [h2, h3]
/-- the first three steps of the class's reading -/
theorem p_nodes {s : zOS} {F : Nat} (hF : 1000 ≤ F) : ∃ s1 s2 s3 m N lab0 lab1, fX0_findPieces F s = some s1 ∧ fX0_joinPieces F s1 = some s2 ∧ fX0_numberNodes F s2 = some s3 ∧ zlab 192 (zwr (zlb s)) (zadj (zlb s) false) lab0 m ∧ zlab 192 (zwr (zlb s)) (zadj (zlb s) true) lab1 N ∧
    zF s3 12 = nI m ∧ zF s3 13 = nI N ∧ m ≤ 96 ∧ N ≤ 96 ∧ zL s3 1 = zL s 1 ∧ ∀ l, l < 3 → ∀ v, v < N → ∀ c, zt (zL s3 (zbs 0 + l) v) c = true ↔ c < 64 ∧ lab1 (64 * l + c) = some v := by
  obtain ⟨m, lab, P, Y, e1, e2, e3, e4⟩ := p_findPieces (s := s) hF
  obtain ⟨J, g, e5, e6, e7⟩ := p_joinPieces (σ := zpst s P Y m) (m := m) hF rfl e4
  have hY : ∀ i, i < m → ∃ l, l < 3 ∧ zI (zsI (zpst s P Y m) 4 J) 3 i = nI l := fun i hi => by
    obtain ⟨l, h1, h2, -⟩ := e3 i hi
    exact ⟨l, h1, h2⟩
  obtain ⟨U, W, e8, e9, e10⟩ := p_numberNodes (s := zsI (zpst s P Y m) 4 J) (m := m) (g := g) hF rfl e4 (fun i hi => e6.1 i hi) ⟨e6.2.1, e6.2.2.1⟩ hY
  have hN : zcount (fun k => decide (g k = k)) m ≤ m := zcount_le
  refine ⟨_, _, _, m, zcount (fun k => decide (g k = k)) m, lab, fun p => (lab p).map (znu g), e1, e5, e8, e2, znodes (σ := zpst s P Y m) rfl rfl rfl e4 e2 e3 e6.2 e7, rfl, rfl, e4, by omega, rfl, fun l hl v hv c => ?_⟩
  rw [znn_W hl, e10 l hl v hv c]
  constructor
  · rintro ⟨j, h1, h2, h3, h4⟩
    have h4 : zt (P j) c = true := h4
    obtain ⟨l', k1, k2, k3, k4⟩ := e3 j h1
    have hll : l' = l := by
      have h2 : Y j = nI l := h2
      rw [k2] at h2
      exact (nI_eq (by omega) (by omega)).mp h2
    subst hll
    refine ⟨zt_lt h4, ?_⟩
    show (lab _).map _ = _
    rw [k4 c h4]
    show some (znu g j) = some v
    rw [h3]
  · rintro ⟨hc, h1⟩
    have h1 : (lab (64 * l + c)).map (znu g) = some v := h1
    cases el : lab (64 * l + c) with
    | none => rw [el] at h1; cases h1
    | some j =>
      rw [el] at h1
      have h1 : znu g j = v := Option.some.inj h1
      have hjm : j < m := by
        cases ew : zwr (zlb s) (64 * l + c) with
        | false => rw [e2.1 _ (by omega) ew] at el; cases el
        | true =>
          obtain ⟨k, hk, hk2⟩ := e2.2.1 _ (by omega) ew
          rw [el] at hk2
          have := Option.some.inj hk2
          omega
      obtain ⟨l', k1, k2, k3, k4⟩ := e3 j hjm
      obtain ⟨q1, q2⟩ := k3 _ (by omega) el
      rw [show (64 * l + c) % 64 = c by omega] at q2
      exact ⟨j, hjm, by show Y j = nI l; rw [k2, ← q1]; congr 1; omega, h1, q2⟩
