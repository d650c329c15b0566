/-! the states of the class: five plans that take turns -/
abbrev zSS : Type := Nat × (Nat → zOS)
/-- the class's addresses, when its states have been turned n times -/
def zqx (q : Nat → Nat) (aa : Nat → Nat → Nat) (n : Nat) : Nat → Nat := fun k => if 60 ≤ k ∧ k < 65 then aa ((k - 60 + n) % 5) 0 else q k
/-- the same, when m places of a turn have been written -/
def zqs (q : Nat → Nat) (aa : Nat → Nat → Nat) (n m : Nat) : Nat → Nat := fun k => if 60 ≤ k ∧ k < 60 + m then aa ((k - 60 + (n + 1)) % 5) 0 else zqx q aa n k
def zrot (S : zSS) : zSS := (S.1 + 1, fun i => S.2 ((i + 1) % 5))
theorem zqx_0 {q : Nat → Nat} {aa : Nat → Nat → Nat} {n : Nat} : zqx q aa n (zbs 4 + (0 : Int32).toNatClampNeg) = aa ((0 + n) % 5) 0 := by
  rw [show (0 : Int32).toNatClampNeg = 0 by decide]
  rfl
theorem zqx_1 {q : Nat → Nat} {aa : Nat → Nat → Nat} {n : Nat} : zqx q aa n (zbs 4 + (1 : Int32).toNatClampNeg) = aa ((1 + n) % 5) 0 := by
  rw [show (1 : Int32).toNatClampNeg = 1 by decide]
  rfl
theorem zqx_2 {q : Nat → Nat} {aa : Nat → Nat → Nat} {n : Nat} : zqx q aa n (zbs 4 + (2 : Int32).toNatClampNeg) = aa ((2 + n) % 5) 0 := by
  rw [show (2 : Int32).toNatClampNeg = 2 by decide]
  rfl
theorem zqx_3 {q : Nat → Nat} {aa : Nat → Nat → Nat} {n : Nat} : zqx q aa n (zbs 4 + (3 : Int32).toNatClampNeg) = aa ((3 + n) % 5) 0 := by
  rw [show (3 : Int32).toNatClampNeg = 3 by decide]
  rfl
theorem zqx_4 {q : Nat → Nat} {aa : Nat → Nat → Nat} {n : Nat} : zqx q aa n (zbs 4 + (4 : Int32).toNatClampNeg) = aa ((4 + n) % 5) 0 := by
  rw [show (4 : Int32).toNatClampNeg = 4 by decide]
  rfl
theorem zqs_12 {q : Nat → Nat} {aa : Nat → Nat → Nat} {n : Nat} : zqs q aa n 1 (zbs 4 + (2 : Int32).toNatClampNeg) = aa ((2 + n) % 5) 0 := by
  rw [show (2 : Int32).toNatClampNeg = 2 by decide]
  rfl
theorem zqs_23 {q : Nat → Nat} {aa : Nat → Nat → Nat} {n : Nat} : zqs q aa n 2 (zbs 4 + (3 : Int32).toNatClampNeg) = aa ((3 + n) % 5) 0 := by
  rw [show (3 : Int32).toNatClampNeg = 3 by decide]
  rfl
theorem zqs_34 {q : Nat → Nat} {aa : Nat → Nat → Nat} {n : Nat} : zqs q aa n 3 (zbs 4 + (4 : Int32).toNatClampNeg) = aa ((4 + n) % 5) 0 := by
  rw [show (4 : Int32).toNatClampNeg = 4 by decide]
  rfl
theorem zqs_st {q : Nat → Nat} {aa : Nat → Nat → Nat} {n m v : Nat} (hm : m < 5) (hv : v = aa ((m + (n + 1)) % 5) 0) : va_up (zqs q aa n m) (60 + m) v = zqs q aa n (m + 1) := by
  funext k
  show (if k = 60 + m then v else zqs q aa n m k) = zqs q aa n (m + 1) k
  by_cases hk : k = 60 + m
  · rw [if_pos hk, hk, hv]
    unfold zqs
    rw [if_pos (by omega), show 60 + m - 60 = m by omega]
  · rw [if_neg hk]
    unfold zqs
    by_cases h1 : 60 ≤ k ∧ k < 60 + m
    · rw [if_pos h1, if_pos (by omega)]
    · rw [if_neg h1, if_neg (by omega)]
theorem zqs_0 {q : Nat → Nat} {aa : Nat → Nat → Nat} {n : Nat} : zqs q aa n 0 = zqx q aa n := by
  funext k
  unfold zqs
  rw [if_neg (by omega)]
theorem zqs_s0 {q : Nat → Nat} {aa : Nat → Nat → Nat} {n : Nat} : va_up (zqx q aa n) (60 + ((1 : Int32) - (1 : Int32)).toNatClampNeg) (aa ((1 + n) % 5) 0) = zqs q aa n 1 := by
  rw [show ((1 : Int32) - (1 : Int32)).toNatClampNeg = 0 by decide, ← zqs_0]
  exact zqs_st (by decide) (by rw [show 0 + (n + 1) = 1 + n by omega])
theorem zqs_s1 {q : Nat → Nat} {aa : Nat → Nat → Nat} {n : Nat} : va_up (zqs q aa n 1) (60 + ((2 : Int32) - (1 : Int32)).toNatClampNeg) (aa ((2 + n) % 5) 0) = zqs q aa n 2 := by
  rw [show ((2 : Int32) - (1 : Int32)).toNatClampNeg = 1 by decide]
  exact zqs_st (by decide) (by rw [show 1 + (n + 1) = 2 + n by omega])
theorem zqs_s2 {q : Nat → Nat} {aa : Nat → Nat → Nat} {n : Nat} : va_up (zqs q aa n 2) (60 + ((3 : Int32) - (1 : Int32)).toNatClampNeg) (aa ((3 + n) % 5) 0) = zqs q aa n 3 := by
  rw [show ((3 : Int32) - (1 : Int32)).toNatClampNeg = 2 by decide]
  exact zqs_st (by decide) (by rw [show 2 + (n + 1) = 3 + n by omega])
theorem zqs_s3 {q : Nat → Nat} {aa : Nat → Nat → Nat} {n : Nat} : va_up (zqs q aa n 3) (60 + ((4 : Int32) - (1 : Int32)).toNatClampNeg) (aa ((4 + n) % 5) 0) = zqs q aa n 4 := by
  rw [show ((4 : Int32) - (1 : Int32)).toNatClampNeg = 3 by decide]
  exact zqs_st (by decide) (by rw [show 3 + (n + 1) = 4 + n by omega])
theorem zqs_s4 {q : Nat → Nat} {aa : Nat → Nat → Nat} {n : Nat} : va_up (zqs q aa n 4) (60 + (4 : Int32).toNatClampNeg) (aa ((0 + n) % 5) 0) = zqs q aa n 5 := by
  rw [show (4 : Int32).toNatClampNeg = 4 by decide]
  exact zqs_st (by decide) (by rw [show (4 + (n + 1)) % 5 = (0 + n) % 5 by omega])
theorem zqs_5 {q : Nat → Nat} {aa : Nat → Nat → Nat} {n : Nat} : zqx q aa (n + 1) = zqs q aa n 5 := by
  funext k
  unfold zqs zqx
  by_cases h : 60 ≤ k ∧ k < 65
  · rw [if_pos h, if_pos (by omega)]
  · rw [if_neg h, if_neg (by omega), if_neg h]
theorem zrot_perm {q : Nat → Nat} {aa : Nat → Nat → Nat} {S : zSS} {s : zOS} : List.Perm ([(4, zqs q aa S.1 5, s), (2, aa ((0 + S.1) % 5), S.2 0), (2, aa ((1 + S.1) % 5), S.2 1), (2, aa ((2 + S.1) % 5), S.2 2), (2, aa ((3 + S.1) % 5), S.2 3), (2, aa ((4 + S.1) % 5), S.2 4)] : List zCm)
    [(4, zqx q aa (zrot S).1, s), (2, aa ((0 + (zrot S).1) % 5), (zrot S).2 0), (2, aa ((1 + (zrot S).1) % 5), (zrot S).2 1), (2, aa ((2 + (zrot S).1) % 5), (zrot S).2 2), (2, aa ((3 + (zrot S).1) % 5), (zrot S).2 3), (2, aa ((4 + (zrot S).1) % 5), (zrot S).2 4)] := by
  have e0 : (0 + (zrot S).1) % 5 = (1 + S.1) % 5 := by show (0 + (S.1 + 1)) % 5 = _; omega
  have e1 : (1 + (zrot S).1) % 5 = (2 + S.1) % 5 := by show (1 + (S.1 + 1)) % 5 = _; omega
  have e2 : (2 + (zrot S).1) % 5 = (3 + S.1) % 5 := by show (2 + (S.1 + 1)) % 5 = _; omega
  have e3 : (3 + (zrot S).1) % 5 = (4 + S.1) % 5 := by show (3 + (S.1 + 1)) % 5 = _; omega
  have e4 : (4 + (zrot S).1) % 5 = (0 + S.1) % 5 := by show (4 + (S.1 + 1)) % 5 = _; omega
  have e5 : zqx q aa (zrot S).1 = zqs q aa S.1 5 := zqs_5
  rw [e0, e1, e2, e3, e4, e5]
  exact (z_pn 6 _ rfl [0, 2, 3, 4, 5, 1] (by decide)).symm
section ZS
variable {β : Type} {X : zCx} {own : String} {cc : ByteArray} {nL rf rl : Nat} {res : β} {e : Option β} {pc : Nat} {lv : List (Nat × Value)} {st : List Value} {cs : List zCm}
theorem z_aast {q qk : Nat → Nat} {σ σk : zOS} (i ik : Nat) {j : Int32} (C : zC X own cc nL rf rl) (hd : decode cc pc = .ok (.aastore, 1)) (hc : cs[i]? = some (4, q, σ)) (hk : cs[ik]? = some (2, qk, σk)) (q' : Nat → Nat) (hq : va_up q (60 + j.toNatClampNeg) (qk 0) = q') (cs' : List zCm) (hcs : cs.set i (4, q', σ) = cs')
    (k : zJ X nL res e (pc + 1) lv st cs') : zJ X nL res (zchk j 5 e) pc lv (.ref (qk 0) :: .int j :: .ref (q 1) :: st) cs := by
  subst hq
  obtain ⟨p, l, ee, R, s, m, args, below, meth, cd, D, kA, A, Q, nc, ns⟩ := X
  obtain ⟨hx, hb, hml, hown, hts, hK, hA, hlk, hR⟩ := C
  intro he H locs ls h1 h2 h3 h4
  obtain ⟨he, hin⟩ := zchk_some he
  have ha : zAr 4 1 5 5 := by unfold zAr; decide
  obtain ⟨pos, hp, hset⟩ := zgw_at (kA := kA) hc (k := 1) ha.1.2
  obtain ⟨pk, hpk, -⟩ := zgw_at (kA := kA) hk (k := 0) (Nat.zero_le _)
  have hlt : j.toNatClampNeg < 5 := Nat.not_le.mp fun q => hin (Or.inr q)
  have hsm : ∀ n, n < 60 → va_up q (60 + j.toNatClampNeg) (qk 0) n = q n := fun n hn => if_neg (by omega)
  have h9 := hset (va_up q (60 + j.toNatClampNeg) (qk 0)) σ (fun n hn => hsm n (by have : znA 4 = 2 := rfl; omega)) (fun n hn hn1 => by
    have hn2 : n ≤ 2 := hn
    rcases (show n = 0 ∨ n = 2 by omega) with rfl | rfl
    · rw [zce_0, zce_0]
      congr 2
      apply List.map_congr_left
      intro f hf
      have hf9 : f < 9 := List.mem_range.mp hf
      have hall : ∀ f, f < 9 → zfk 4 f < 62 := by decide
      have h62 := hall f hf9
      unfold zfv
      split
      · rfl
      · rfl
      · next n' e' =>
        rw [hsm n' (by omega)]
    · rw [zce_i (n := 3) (by unfold zAr; decide), zce_i (n := 3) (by unfold zAr; decide)])
  rw [zce_r ha (by decide)] at hp h9
  rw [zce_0] at hpk
  rw [hcs] at h9
  have hf : (fun i => if i < 5 then some (va_up q (60 + j.toNatClampNeg) (qk 0) (zbs 4 + i)) else none) = va_up (fun i => if i < 5 then some (q (zbs 4 + i)) else none) j.toNatClampNeg (some (qk 0)) := by
    funext n
    have hz : zbs 4 = 60 := rfl
    show (if n < 5 then some (if zbs 4 + n = 60 + j.toNatClampNeg then qk 0 else q (zbs 4 + n)) else none) = if n = j.toNatClampNeg then some (qk 0) else (if n < 5 then some (q (zbs 4 + n)) else none)
    by_cases hn : n = j.toNatClampNeg
    · rw [if_pos hn, if_pos (by omega), if_pos (by omega)]
    · rw [if_neg hn]
      by_cases h5 : n < 5
      · rw [if_pos h5, if_pos h5, if_neg (by omega)]
      · rw [if_neg h5, if_neg h5]
  rw [hf] at h9
  refine va_astq hx hb hK h1 h2 h3 pos 5 pk 2 hp rfl hpk (zcl_at (c := 2) (by decide)) hin hd (fun H1 locs1 g1 g2 g3 => ?_)
  rw [h9] at g1 g2
  exact k he H1 locs1 ls g1 g2 g3 h4
end ZS
