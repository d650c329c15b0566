/-! PURE: the reference's reading of THE TEXT -/
def zrd (s : zOS) (a f o : Int32) (L N : Nat → Int32) : zOS := (va_up (va_up s.1 13 L) 14 N, s.2.1, va_up (va_up (va_up s.2.2.1 20 a) 21 f) 22 o, s.2.2.2)
section ZR
variable {s : zOS} {a f o : Int32} {L N : Nat → Int32}
theorem zrd_20 {a' : Int32} : zsF (zrd s a f o L N) 20 a' = zrd s a' f o L N := by
  show (_, _, va_up (va_up (va_up (va_up s.2.2.1 20 a) 21 f) 22 o) 20 a', _) = _
  rw [va_cm _ (show 22 ≠ 20 by decide), va_cm _ (show 21 ≠ 20 by decide), bx_uu]; rfl
theorem zrd_21 {a' : Int32} : zsF (zrd s a f o L N) 21 a' = zrd s a a' o L N := by
  show (_, _, va_up (va_up (va_up (va_up s.2.2.1 20 a) 21 f) 22 o) 21 a', _) = _
  rw [va_cm _ (show 22 ≠ 21 by decide), bx_uu]; rfl
theorem zrd_22 {a' : Int32} : zsF (zrd s a f o L N) 22 a' = zrd s a f a' L N := by
  show (_, _, va_up (va_up (va_up (va_up s.2.2.1 20 a) 21 f) 22 o) 22 a', _) = _
  rw [bx_uu]; rfl
theorem zrd_13 {L' : Nat → Int32} : zsI (zrd s a f o L N) 13 L' = zrd s a f o L' N := by
  show (va_up (va_up (va_up s.1 13 L) 14 N) 13 L', _) = _
  rw [va_cm _ (show 14 ≠ 13 by decide), bx_uu]; rfl
theorem zrd_14 {N' : Nat → Int32} : zsI (zrd s a f o L N) 14 N' = zrd s a f o L N' := by
  show (va_up (va_up (va_up s.1 13 L) 14 N) 14 N', _) = _
  rw [bx_uu]; rfl
theorem zrd_s : zsF (zsF (zsF s 20 a) 21 f) 22 o = zrd s a f o (zI s 13) (zI s 14) := by
  obtain ⟨x, y, z, w⟩ := s
  show (x, y, va_up (va_up (va_up z 20 a) 21 f) 22 o, w) = (va_up (va_up x 13 (x 13)) 14 (x 14), y, va_up (va_up (va_up z 20 a) 21 f) 22 o, w)
  rw [va_id, va_id]
/-- the byte at which reading stands -/
def zcr (t : Nat → Int32) (n i : Nat) : Int32 := if zsk t n i < n then t (zsk t n i) else -1
theorem q_here38 {n i F : Nat} (hn : n ≤ 150) (h19 : zF s 19 = nI n) (hi : i ≤ n) : jX5_here_38 F (zrd s (nI i) f o L N) = some (if i < n then zI s 12 i else -1, zrd s (nI i) f o L N) := by
  unfold jX5_here_38
  rw [show zF (zrd s (nI i) f o L N) 19 = nI n from h19, show zF (zrd s (nI i) f o L N) 20 = nI i from rfl, show zI (zrd s (nI i) f o L N) 12 = zI s 12 from rfl]
  rcases Nat.lt_or_ge i n with q | q
  · rw [if_neg (zlt_no q (by omega)), if_pos q, zchk_nI (show i < 150 by omega) (by decide), nI_clamp (show i < 2 ^ 31 by omega)]
  · rw [if_pos (zle_ok q (by omega)), if_neg (by omega)]
theorem q_hereK {n F : Nat} (hn : n ≤ 150) (h19 : zF s 19 = nI n) : ∀ d i K, n - i ≤ d → i ≤ n → d < K → zit (P := zOS) (R := Int32 × zOS) (fun kc9 p9 => bX5_here_0 F kc9 p9) K (zrd s (nI i) f o L N) = some (zcr (zI s 12) n i, zrd s (nI (zsk (zI s 12) n i)) f o L N)
  | d, i, 0, _, _, hK => absurd hK (Nat.not_lt_zero _)
  | d, i, K + 1, hd, hi, hK => by
    show bX5_here_0 F (zit (P := zOS) (R := Int32 × zOS) (fun kc9 p9 => bX5_here_0 F kc9 p9) K) (zrd s (nI i) f o L N) = _
    unfold bX5_here_0 zcr
    rw [q_here38 hn h19 hi, show zF (zrd s (nI i) f o L N) 19 = nI n from h19, show zF (zrd s (nI i) f o L N) 20 = nI i from rfl, show zI (zrd s (nI i) f o L N) 12 = zI s 12 from rfl]
    rcases Nat.lt_or_ge i n with q | q
    · rw [if_neg (zlt_no q (by omega)), zchk_nI (show i < 150 by omega) (by decide), nI_clamp (show i < 2 ^ 31 by omega)]
      by_cases hb : zI s 12 i = 32
      · rw [if_pos hb, zlet_eq, nI_1, zrd_20, zsk_b q hb]
        cases d with
        | zero => omega
        | succ d => exact q_hereK hn h19 d (i + 1) K (by omega) (by omega) (by omega)
      · rw [if_neg hb, zsk_c q hb]
    · rw [if_pos (zle_ok q (by omega)), show i = n by omega, zsk_n]
theorem q_here {n i F : Nat} (hF : 1000 ≤ F) (hn : n ≤ 150) (h19 : zF s 19 = nI n) (hi : i ≤ n) : fX5_here F (zrd s (nI i) f o L N) = some (zcr (zI s 12) n i, zrd s (nI (zsk (zI s 12) n i)) f o L N) := q_hereK hn h19 (n - i) i F (Nat.le_refl _) hi (by omega)
theorem q_must1 {i : Nat} : fX5_must 1 (zrd s (nI i) (-1) o L N) = some (zrd s (nI (i + 1)) (-1) o L N) := by
  unfold fX5_must
  rw [show zF (zrd s (nI i) (-1) o L N) 21 = -1 from rfl, if_pos rfl, if_neg (by decide), zlet_eq, show zF (zrd s (nI i) (-1) o L N) 20 = nI i from rfl, nI_1, zrd_20]
theorem q_must0 {x : Int32} : fX5_must 0 (zrd s x (-1) o L N) = some (zrd s x x o L N) := by
  unfold fX5_must
  rw [show zF (zrd s x (-1) o L N) 21 = -1 from rfl, if_pos rfl, if_pos rfl, zlet_eq, show zF (zrd s x (-1) o L N) 20 = x from rfl, zrd_21]
/-- the figure x of those from i on -/
def zdv (t : Nat → Int32) (n : Nat) : Nat → Nat → Int32
  | i, 0 => t (zsk t n i) - 48
  | i, x + 1 => zdv t n (zsk t n i + 1) x
theorem zdig_all : ∀ k, k < 128 → (decide ((0 : Int32) ≤ nI k - 48) && decide (nI k - 48 ≤ 9)) = zdig (nI k) := by decide +kernel
theorem q_digin {t : Nat → Int32} {n i : Nat} (ht : ∀ i, i < n → zin (t i) 128 = true) : fX5_in (zcr t n i - 48) 0 9 = some (zb (zdig (zcr t n i))) := by
  rw [q_in]
  unfold zcr
  by_cases h : zsk t n i < n
  · rw [if_pos h]
    obtain ⟨k, hk, e⟩ := (zin_iff (n := 128) (by decide)).mp (ht _ h)
    rw [e, zdig_all k hk]
  · rw [if_neg h]; rfl
theorem zdig_cr {t : Nat → Int32} {n i : Nat} : zdig (zcr t n i) = true ↔ zsk t n i < n ∧ zdig (t (zsk t n i)) = true := by
  unfold zcr
  by_cases h : zsk t n i < n
  · rw [if_pos h]; exact ⟨fun q => ⟨h, q⟩, fun q => q.2⟩
  · rw [if_neg h]; exact ⟨fun q => absurd q (by decide), fun q => absurd q.1 h⟩
theorem q_81f {c x : Int32} {F f : Nat} (hf : f < 2 ^ 31) : jX5_readOrder_81 F c (zrd s x (nI f) o L N) = some (zrd s x (nI f) o L N) := by
  unfold jX5_readOrder_81
  rw [show zF (zrd s x (nI f) o L N) 21 = nI f from rfl, if_neg (nI_ne1 hf)]
theorem q_26f {c x2 x y : Int32} {F f : Nat} (kc : (Int32 × zOS) → Option zOS) (hf : f < 2 ^ 31) : bX5_readOrder_26 F c x2 kc y (zrd s x (nI f) o L N) = some (zrd s x (nI f) o L N) := by
  unfold bX5_readOrder_26
  rw [show zF (zrd s x (nI f) o L N) 21 = nI f from rfl, if_neg (nI_ne1 hf), q_81f hf, ite_self]
theorem q_digits {n F k w : Nat} {c : Int32} (hF : 1000 ≤ F) (hn : n ≤ 150) (h19 : zF s 19 = nI n) (ht : ∀ i, i < n → zin (zI s 12 i) 128 = true) (hk : k ≤ 75) (hw : w ≤ 5) : ∀ (r x i : Nat) (N : Nat → Int32) (K : Nat), x + r = w → i ≤ n → r + 2 ≤ K →
    ((zdgs (zI s 12) n r i).1 = true → ∃ N', zit (P := Int32 × zOS) (R := zOS) (fun kc9 p9 => bX5_readOrder_26 F c (nI w) kc9 p9.1 p9.2) K (nI x, zrd s (nI i) (-1) (nI k) L N) = jX5_readOrder_81 F c (zrd s (nI (zdgs (zI s 12) n r i).2) (-1) (nI k) L N') ∧ (∀ y, y < r → N' (5 * k + x + y) = zdv (zI s 12) n i y) ∧ ∀ j, j < 5 * k + x → N' j = N j) ∧
    (¬ (zdgs (zI s 12) n r i).1 = true → ∃ a N', zit (P := Int32 × zOS) (R := zOS) (fun kc9 p9 => bX5_readOrder_26 F c (nI w) kc9 p9.1 p9.2) K (nI x, zrd s (nI i) (-1) (nI k) L N) = some (zrd s a (nI (zdgs (zI s 12) n r i).2) (nI k) L N'))
  | r, x, i, N, 0, _, _, hK => by omega
  | 0, x, i, N, K + 1, hx, hi, hK => by
    refine ⟨fun _ => ⟨N, ?_, fun y hy => by omega, fun j _ => rfl⟩, fun q => absurd rfl q⟩
    show bX5_readOrder_26 F c (nI w) _ (nI x) (zrd s (nI i) (-1) (nI k) L N) = _
    unfold bX5_readOrder_26
    rw [if_pos (zle_ok (by omega) (by omega))]
    rfl
  | r + 1, x, i, N, K + 1, hx, hi, hK => by
    obtain ⟨h1, h2, h3⟩ := zsk_p (t := zI s 12) hi
    have hit : zit (P := Int32 × zOS) (R := zOS) (fun kc9 p9 => bX5_readOrder_26 F c (nI w) kc9 p9.1 p9.2) (K + 1) (nI x, zrd s (nI i) (-1) (nI k) L N) = Option.bind (fX5_must (zb (zdig (zcr (zI s 12) n i))) (zrd s (nI (zsk (zI s 12) n i)) (-1) (nI k) L N)) (fun r_19 : zOS => (zchk (((5 : Int32) * (zF r_19 22)) + nI x) 400 (zlet (zsI r_19 14 (upd (zI r_19 14) (((5 : Int32) * (zF r_19 22)) + nI x).toNatClampNeg (zcr (zI s 12) n i - 48))) (fun sD_21 : zOS => (zit (P := Int32 × zOS) (R := zOS) (fun kc9 p9 => bX5_readOrder_26 F c (nI w) kc9 p9.1 p9.2) K (nI (x + 1), sD_21)))))) := by
      show bX5_readOrder_26 F c (nI w) _ (nI x) (zrd s (nI i) (-1) (nI k) L N) = _
      unfold bX5_readOrder_26
      rw [if_neg (zlt_no (by omega) (by omega)), show zF (zrd s (nI i) (-1) (nI k) L N) 21 = -1 from rfl, if_pos rfl, q_here hF hn h19 hi, Option.bind_some, zlet_eq, q_digin ht, Option.bind_some, nI_1]
    rw [hit]
    by_cases e : zsk (zI s 12) n i < n ∧ zdig (zI s 12 (zsk (zI s 12) n i)) = true
    · have e1 := zdig_cr.mpr e
      have ec : zcr (zI s 12) n i = zI s 12 (zsk (zI s 12) n i) := if_pos e.1
      rw [e1, show zb true = 1 from rfl, q_must1, Option.bind_some, show zF (zrd s (nI (zsk (zI s 12) n i + 1)) (-1) (nI k) L N) 22 = nI k from rfl, zmu (m := (5 : Int32)) (c := 5) rfl, zchk_nI (show 5 * k + x < 400 by omega) (by decide), zlet_eq, nI_clamp (show 5 * k + x < 2 ^ 31 by omega), zrd_14, show zI (zrd s (nI (zsk (zI s 12) n i + 1)) (-1) (nI k) L N) 14 = N from rfl, ec, show zdgs (zI s 12) n (r + 1) i = zdgs (zI s 12) n r (zsk (zI s 12) n i + 1) from if_pos e]
      obtain ⟨g1, g2⟩ := q_digits hF hn h19 ht hk hw r (x + 1) (zsk (zI s 12) n i + 1) (upd N (5 * k + x) (zI s 12 (zsk (zI s 12) n i) - 48)) K (by omega) (by omega) (by omega)
      refine ⟨fun q => ?_, g2⟩
      obtain ⟨N', k1, k2, k3⟩ := g1 q
      refine ⟨N', k1, fun y hy => ?_, fun j hj => ?_⟩
      · cases y with
        | zero =>
          rw [k3 _ (by omega)]
          exact zud_s _ _ _
        | succ y =>
          have := k2 y (by omega)
          rw [show 5 * k + (x + 1) + y = 5 * k + x + (y + 1) by omega] at this
          exact this
      · rw [k3 j (by omega), zud_n _ _ (by omega)]
    · have e1 : zdig (zcr (zI s 12) n i) = false := by
        cases q : zdig (zcr (zI s 12) n i) with
        | false => rfl
        | true => exact absurd (zdig_cr.mp q) e
      have e2 : zdgs (zI s 12) n (r + 1) i = (false, zsk (zI s 12) n i) := if_neg e
      rw [e2]
      refine ⟨fun q => (by cases q), fun _ => ?_⟩
      rw [e1, show zb false = 0 from rfl, q_must0, Option.bind_some, show zF (zrd s (nI (zsk (zI s 12) n i)) (nI (zsk (zI s 12) n i)) (nI k) L N) 22 = nI k from rfl, zmu (m := (5 : Int32)) (c := 5) rfl, zchk_nI (show 5 * k + x < 400 by omega) (by decide), zlet_eq, zrd_14]
      cases K with
      | zero => omega
      | succ K =>
        exact ⟨_, _, q_26f _ (by omega)⟩
theorem q_readOrder {n F k i : Nat} (hF : 1000 ≤ F) (hn : n ≤ 150) (h19 : zF s 19 = nI n) (ht : ∀ i, i < n → zin (zI s 12 i) 128 = true) (hk : k ≤ 75) (hi : i ≤ n) (hs : zsk (zI s 12) n i < n) :
    ((zor (zI s 12) n i).1 = true → ∃ L' N', fX5_readOrder F (zrd s (nI i) (-1) (nI k) L N) = some (zrd s (nI (zor (zI s 12) n i).2) (-1) (nI (k + 1)) L' N') ∧ L' k = zI s 12 (zsk (zI s 12) n i) ∧ (∀ j, j < k → L' j = L j) ∧ (∀ y w, zfg (zI s 12 (zsk (zI s 12) n i)) = some w → y < w → N' (5 * k + y) = zdv (zI s 12) n (zsk (zI s 12) n i + 1) y) ∧ ∀ j, j < 5 * k → N' j = N j) ∧
    (¬ (zor (zI s 12) n i).1 = true → ∃ a o L' N', fX5_readOrder F (zrd s (nI i) (-1) (nI k) L N) = some (zrd s a (nI (zor (zI s 12) n i).2) o L' N')) := by
  obtain ⟨h1, h2, h3⟩ := zsk_p (t := zI s 12) hi
  unfold fX5_readOrder
  rw [q_here hF hn h19 hi, Option.bind_some, zlet_eq, show zcr (zI s 12) n i = zI s 12 (zsk (zI s 12) n i) from if_pos hs, q_numbersOf, Option.bind_some]
  unfold jX5_readOrder_21
  cases e : zfg (zI s 12 (zsk (zI s 12) n i)) with
  | none =>
    rw [zor_0 e]
    refine ⟨fun q => (by cases q), fun _ => ?_⟩
    rw [show zenc none = (-1 : Int32) from rfl, if_pos rfl, q_must0, Option.bind_some]
    cases F with
    | zero => omega
    | succ F =>
      exact ⟨_, _, _, _, q_26f _ (by omega)⟩
  | some w =>
    have hw := zfg_le e
    rw [if_neg (show ¬ zenc (some w) = -1 from zenc_ne (by omega)), q_must1, Option.bind_some, zor_s e, show zenc (some w) = nI w from rfl]
    obtain ⟨g1, g2⟩ := q_digits (L := L) (c := zI s 12 (zsk (zI s 12) n i)) hF hn h19 ht hk hw w 0 (zsk (zI s 12) n i + 1) N F (by omega) (by omega) (by omega)
    obtain ⟨b1, b2⟩ := zdg_p (t := zI s 12) (w := w) (show zsk (zI s 12) n i + 1 ≤ n by omega)
    generalize zdgs (zI s 12) n w (zsk (zI s 12) n i + 1) = z at *
    by_cases ez : z.1 = true
    · obtain ⟨N', k1, k2, k3⟩ := g1 ez
      rw [if_pos ez, show (0 : Int32) = nI 0 from rfl, k1]
      obtain ⟨c1, c2, c3⟩ := zsk_p (t := zI s 12) b2
      unfold jX5_readOrder_81
      rw [show zF (zrd s (nI z.2) (-1) (nI k) L N') 21 = -1 from rfl, if_pos rfl, show zF (zrd s (nI z.2) (-1) (nI k) L N') 22 = nI k from rfl, zchk_nI (show k < 80 by omega) (by decide), zlet_eq, zlet_eq, nI_clamp (show k < 2 ^ 31 by omega), show zI (zrd s (nI z.2) (-1) (nI k) L N') 13 = L from rfl, zrd_13, show ∀ L', zF (zrd s (nI z.2) (-1) (nI k) L' N') 22 = nI k from fun _ => rfl, nI_1, zrd_22, q_here hF hn h19 b2, Option.bind_some]
      unfold jX5_readOrder_124
      by_cases q : zsk (zI s 12) n z.2 < n ∧ zI s 12 (zsk (zI s 12) n z.2) = 59
      · rw [if_pos q, show zcr (zI s 12) n z.2 = zI s 12 (zsk (zI s 12) n z.2) from if_pos q.1, if_pos q.2, q_must1, Option.bind_some]
        refine ⟨fun _ => ⟨_, _, rfl, zud_s _ _ _, fun j hj => zud_n _ _ (by omega), fun y w' hw' hy => ?_, fun j hj => k3 j (by omega)⟩, fun q => absurd rfl q⟩
        cases hw'
        exact k2 y hy
      · rw [if_neg q, if_neg (show ¬ zcr (zI s 12) n z.2 = 59 from fun h => by
          unfold zcr at h
          by_cases h' : zsk (zI s 12) n z.2 < n
          · rw [if_pos h'] at h; exact q ⟨h', h⟩
          · rw [if_neg h'] at h; exact absurd h (by decide)), q_must0, Option.bind_some]
        exact ⟨fun q => (by cases q), fun _ => ⟨_, _, _, _, rfl⟩⟩
    · obtain ⟨a, N', k1⟩ := g2 ez
      rw [if_neg ez, show (0 : Int32) = nI 0 from rfl, k1]
      exact ⟨fun q => (by cases q), fun _ => ⟨_, _, _, _, rfl⟩⟩
end ZR
