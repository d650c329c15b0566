/-! PURE: one bit of the reference's plan turned -/
def zfp (a : Nat → Int32) (l i : Nat) : Nat → Int32 := upd a (2 * l + i / 32) (a (2 * l + i / 32) ^^^ ((1 : Int32) <<< (nI (i % 32) &&& 31)))
theorem q_flip {sD : zOS} {l i : Nat} (hl : l < 4) (hi : i < 64) : fX5_flip (nI l) (nI i) sD = some (zsI sD 1 (zfp (zI sD 1) l i)) := by
  unfold fX5_flip zfp
  rw [zdvk_ok (by decide), zdvk_ok (by decide), zix hl hi, zchk_nI (show 2 * l + i / 32 < 46 by omega) (by decide), zchk_nI (show 2 * l + i / 32 < 46 by omega) (by decide), zlet_eq, nI_clamp (show 2 * l + i / 32 < 2 ^ 31 by omega), show (32 : Int32) = nI 32 from rfl, zrm (by omega) (by decide) (by decide)]
theorem zfp_bit {a : Nat → Int32} {l i l' i' : Nat} (hi : i < 64) (hi' : i' < 64) : zmb (zfp a l i) l' i' = if l' = l ∧ i' = i then !zmb a l i else zmb a l' i' := by
  unfold zmb zfp
  by_cases h : 2 * l' + i' / 32 = 2 * l + i / 32
  · rw [h, zud_s, zu_xor, zu_bit (show i % 32 < 32 by omega)]
    by_cases e : i' = i
    · subst e
      rw [if_pos ⟨by omega, rfl⟩, decide_eq_true rfl]
      cases zu (a (2 * l + i' / 32)) (i' % 32) <;> rfl
    · rw [if_neg (fun q => e q.2), decide_eq_false (show ¬ i' % 32 = i % 32 by omega), Bool.xor_false]
  · rw [zud_n _ _ h, if_neg (fun q => h (by rw [q.1, q.2]))]
theorem zfp_ge {a : Nat → Int32} {l i k : Nat} (hl : l < 4) (hi : i < 64) (hk : 8 ≤ k) : zfp a l i k = a k := zud_n _ _ (by omega)
