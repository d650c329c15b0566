/-! further rows -/
theorem z_lof (x : Int32) (vs : List Int32) (dflt : Int) (hne : ∀ v ∈ vs, ¬ x = v) : ∀ l : List (Int × Int), (∀ p ∈ l, Int32.ofInt p.1 ∈ vs) → Op.lookupswitch.offset l dflt x.toInt = dflt
  | [], _ => rfl
  | (a, o) :: r, h => by
    rw [Op.lookupswitch.offset_cons, if_neg (fun e => ?_)]
    · exact z_lof x vs dflt hne r (fun p hp => h p (List.mem_cons_of_mem _ hp))
    · have h1 := h (a, o) List.mem_cons_self
      rw [show ((a, o) : Int × Int).1 = x.toInt from e, Int32.ofInt_toInt] at h1
      exact hne x h1 rfl
section ZM
variable {α β : Type} {X : zCx} {own : String} {cc : ByteArray} {nL rf rl : Nat} {res : β} {e : Option β} {pc : Nat} {lv : List (Nat × Value)} {st : List Value} {cs : List zCm}
theorem z_ldef {dflt : Int} {ps : Array (Int × Int)} {len : Nat} {x : Int32} (vs : List Int32) (tgt : Nat) (hne : ∀ v ∈ vs, ¬ x = v) (C : zC X own cc nL rf rl) (hd : decode cc pc = .ok (.lookupswitch dflt ps, len)) (hp : (ps.toList.zip (ps.toList.drop 1)).all (fun (a, next) => a.1 < next.1) = true) (hps : ∀ p ∈ ps.toList, Int32.ofInt p.1 ∈ vs) (ht : (pc : Int) + dflt = (tgt : Int))
    (k : zJ X nL res e tgt lv st cs) : zJ X nL res e pc lv (.int x :: st) cs := by
  obtain ⟨p, l, ee, R, s, m, args, below, meth, c, D, kA, A, Q, nc, ns⟩ := X
  obtain ⟨hx, hb, hml, hown, hts, hK, hA, hlk, hR⟩ := C
  intro he H locs ls g1 g2 g3 g4
  exact lv_lookup hx hb hd hp (z_lof x vs dflt hne _ hps) ht (k he H locs ls g1 g2 g3 g4)
theorem z_rf {a : Nat} (b : Nat) (h : a = b) (k : zJ X nL res e pc lv (.ref b :: st) cs) : zJ X nL res e pc lv (.ref a :: st) cs := by
  subst h
  exact k
theorem z_cs (cs' : List zCm) (h : cs.Perm cs') (k : zJ X nL res e pc lv st cs') : zJ X nL res e pc lv st cs := by
  obtain ⟨p, l, ee, R, s, m, args, below, meth, c, D, kA, A, Q, nc, ns⟩ := X
  intro he H locs ls h1 h2 h3 h4
  exact k he H locs ls (zP_perm (zgw_perm h) h1) (zD_perm (zgw_perm h) h2) h3 h4
end ZM
theorem z_pn {α : Type} (n : Nat) (cs : List α) (hn : cs.length = n) (is : List Nat) (h : is.Perm (List.range n)) : (is.filterMap (fun i => cs[i]?)).Perm cs := z_pm cs is (by rw [hn]; exact h)
