/-! the reference's private methods, each with a general post -/
theorem py_e1 {s : Nat} (hs : s < 125) : (nI s / 5) - (nI s / 5) / 5 * 5 = nI (s / 5 % 5) := by
  rw [show nI s / 5 = nI (s / 5) from pk_div (d := 5) (by omega) (by omega) (by omega)]
  exact pk_rem (d := 5) (by omega) (by omega) (by omega)
theorem py_lv {post : Int32 → Prop} {f k l m : Int32} {att sec fine : Nat → Int32} (s a : Nat) (hs : s < 125) (ha : a < 3) (h : post (nI (pl_lv s a))) : wpY_level post (f, k, l, m, att, sec, fine) (nI s) (nI a) := by
  unfold wpY_level
  dsimp only
  refine pk_eq a 0 (fun e => ⟨by decide, ?_⟩) (fun e => pk_eq a 1 (fun e1 => ⟨by decide, by decide, ?_⟩) (fun e1 => ⟨by decide, ?_⟩))
  · subst e
    rw [px_e0 hs]
    exact h
  · subst e1
    rw [py_e1 hs]
    exact h
  · obtain rfl : a = 2 := by omega
    rw [px_e2 hs]
    exact h
theorem py_ix (r a : Nat) : nI r * 3 + nI a = nI (r * 3 + a) := by
  rw [show nI r * 3 = nI (r * 3) from pk_mul r 3, nI_add]
theorem py_alS {post : Int32 → Prop} {f k l m : Int32} {val att sec fine : Nat → Int32} (s r q a d : Nat) (hs : s < 125) (hr : r < 16) (hq : q < 16) (ha : a < 3) (er : att (r * 3 + a) = nI (pl_a (val r) a)) (eq : att (q * 3 + a) = nI (pl_a (val q) a)) (h1 : pl_h (val r) s a = pl_h (val q) s a → wY_alike_3 post (nI s) (nI r) (nI q) f k l m att sec fine d (nI (a + 1))) (h2 : ¬ pl_h (val r) s a = pl_h (val q) s a → post 0) : wY_alike_3 post (nI s) (nI r) (nI q) f k l m att sec fine (d + 1) (nI a) := by
  have p := pl_s4 _ (pl_lvl hs a)
  have b1 := pl_al (val r) a
  have b2 := pl_al (val q) a
  have c1 := pl_hl (val r) s a
  have c2 := pl_hl (val q) s a
  refine br_f (nI_ge (b := 3) ha (by decide)) (py_lv s a hs ha (nm_r (pl_s1 _ (pl_lvl hs a)) ?_))
  rw [py_ix, py_ix, nI_clamp (by omega), nI_clamp (by omega), er, eq, pk_div (by omega) p.1 p.2, pk_div (by omega) p.1 p.2]
  refine ⟨vp_in_nI (by omega) (by decide), nI_ne0 p.1 p.2, vp_in_nI (by omega) (by decide), nI_ne0 p.1 p.2, ?_⟩
  exact pk_eq (pl_h (val r) s a) (pl_h (val q) s a) (fun e => nm_r (nI_1 a) (h1 e)) h2 rfl rfl (by omega) (by omega)
def py_At (n : Nat) (val att : Nat → Int32) : Prop := ∀ q a, q < n → a < 3 → att (q * 3 + a) = nI (pl_a (val q) a)
theorem py_al {post : Int32 → Prop} {f k l m : Int32} {val att sec fine : Nat → Int32} (n s r q : Nat) (hs : s < 125) (hn : n ≤ 16) (hr : r < n) (hq : q < n) (hA : py_At n val att) (hp : post (pl_b (pl_A val s r q))) : wpY_alike post (f, k, l, m, att, sec, fine) (nI s) (nI r) (nI q) := by
  have no : (¬ (pl_h (val r) s 0 = pl_h (val q) s 0 ∧ pl_h (val r) s 1 = pl_h (val q) s 1 ∧ pl_h (val r) s 2 = pl_h (val q) s 2)) → post 0 := by
    intro h
    cases e : pl_A val s r q
    · rw [e] at hp
      exact hp
    · exact absurd (pl_Ai.mp e) h
  refine ⟨4, py_alS s r q 0 3 hs (by omega) (by omega) (by decide) (hA r 0 hr (by decide)) (hA q 0 hq (by decide)) (fun e0 => ?_) (fun e => no (fun z => e z.1))⟩
  refine py_alS s r q 1 2 hs (by omega) (by omega) (by decide) (hA r 1 hr (by decide)) (hA q 1 hq (by decide)) (fun e1 => ?_) (fun e => no (fun z => e z.2.1))
  refine py_alS s r q 2 1 hs (by omega) (by omega) (by decide) (hA r 2 hr (by decide)) (hA q 2 hq (by decide)) (fun e2 => ?_) (fun e => no (fun z => e z.2.2))
  refine br_t (nI_le (a := 3) (b := 3) (by decide) (by decide)) ?_
  rw [pl_Ai.mpr ⟨e0, e1, e2⟩] at hp
  exact hp
theorem py_h57 {post : Int32 → Prop} {f m : Int32} {att sec fine : Nat → Int32} (K L c : Nat) (seen : Int32) (hK : K ≤ 8) (hL : L ≤ 8) (hc : c ≤ 16) (hp : post (pl_b (decide (K ≤ c) && decide (L ≤ pl_c (bt seen) 8)))) : ∀ d i, i + d = 8 → wY_hidden_57 post (nI c) seen f (nI K) (nI L) m att sec fine (d + 1) (nI (pl_c (bt seen) i)) (nI i) := by
  intro d
  induction d with
  | zero =>
    intro i hi
    obtain rfl : i = 8 := by omega
    have c8 := pl_cle (bt seen) 8
    refine br_t (nI_le (a := 8) (b := 8) (by decide) (by decide)) (pk_lt c K (fun h => ?_) (fun h => pk_lt (pl_c (bt seen) 8) L (fun h2 => ?_) (fun h2 => ?_)))
    · rw [decide_eq_false (Nat.not_le.mpr h), Bool.false_and] at hp
      exact hp
    · rw [decide_eq_false (Nat.not_le.mpr h2), Bool.and_false] at hp
      exact hp
    · rw [decide_eq_true h, decide_eq_true h2] at hp
      exact hp
  | succ d ih =>
    intro i hi
    have h1 := ih (i + 1) (by omega)
    refine br_f (nI_ge (b := 8) (by omega) (by decide)) (nm_r (e' := nI (pl_c (bt seen) (i + 1))) ?_ (nm_r (nI_1 i) h1))
    rw [pl_b5 seen (show i < 8 by omega), nI_add]
    rfl
theorem py_h8 {post : Int32 → Prop} {m : Int32} {val att sec fine : Nat → Int32} (n K L s r : Nat) (hs : s < 125) (hn : n ≤ 16) (hK : K ≤ 8) (hL : L ≤ 8) (hr : r < n) (hA : py_At n val att) (hS : ∀ q, q < n → ∃ c, c < 8 ∧ sec q = nI c) (hp : post (pl_b (pl_H val sec n K L s r))) : ∀ d i seen, i + d = n → (∀ c, c < 8 → bt seen c = pl_e (fun q => pl_A val s r q && decide ((sec q).toNatClampNeg = c)) i) → wY_hidden_8 post (nI s) (nI r) (nI n) (nI K) (nI L) m att sec fine (d + 1) (nI (pl_c (fun q => pl_A val s r q) i)) seen (nI i) := by
  intro d
  induction d with
  | zero =>
    intro i seen hi hb
    obtain rfl : i = n := by omega
    have e : pl_c (bt seen) 8 = pl_D val sec i s r := pl_cc 8 hb
    have c1 := pl_cle (fun q => pl_A val s r q) i
    refine br_t (nI_le (Nat.le_refl _) (by omega)) ⟨9, py_h57 K L _ seen hK hL (by omega) ?_ 8 0 (by omega)⟩
    rw [e]
    exact hp
  | succ d ih =>
    intro i seen hi hb
    obtain ⟨c, hc, ec⟩ := hS i (by omega)
    have cc : (sec i).toNatClampNeg = c := by rw [ec, nI_clamp (by omega)]
    have st : ∀ x, pl_e (fun q => pl_A val s r q && decide ((sec q).toNatClampNeg = x)) (i + 1) = (pl_e (fun q => pl_A val s r q && decide ((sec q).toNatClampNeg = x)) i || (pl_A val s r i && decide (c = x))) := by
      intro x
      show (_ || (pl_A val s r i && decide ((sec i).toNatClampNeg = x))) = _
      rw [cc]
    refine br_f (nI_ge (by omega) (by omega)) (py_al n s r i hs hn hr (by omega) hA (pl_bz (fun a => ?_) (fun a => ?_)))
    · have h1 := ih (i + 1) seen (by omega) (fun x hx => by rw [hb x hx, st x, a, Bool.false_and, Bool.or_false])
      rw [pl_f (p := fun q => pl_A val s r q) a] at h1
      exact nm_r (nI_1 i) h1
    · refine nm_r (pl_tI (p := fun q => pl_A val s r q) a) ⟨vp_in_nI (by omega) (by decide), nm_r (e' := seen ||| ((1 : Int32) <<< (nI c &&& 31))) (by rw [nI_clamp (by omega), ec]) (nm_r (nI_1 i) (ih (i + 1) _ (by omega) (fun x hx => ?_)))⟩
      rw [pl_b6 seen hc hx, hb x hx, st x, a, Bool.true_and]
      exact congrArg (fun z => _ || z) (decide_eq_decide.mpr ⟨Eq.symm, Eq.symm⟩)
theorem py_hi {post : Int32 → Prop} {m : Int32} {val att sec fine : Nat → Int32} (n K L s r : Nat) (hs : s < 125) (hn : n ≤ 16) (hK : K ≤ 8) (hL : L ≤ 8) (hr : r < n) (hA : py_At n val att) (hS : ∀ q, q < n → ∃ c, c < 8 ∧ sec q = nI c) (hp : post (pl_b (pl_H val sec n K L s r))) : wpY_hidden post (nI n, nI K, nI L, m, att, sec, fine) (nI s) (nI r) :=
  ⟨n + 1, py_h8 n K L s r hs hn hK hL hr hA hS hp n 0 0 (by omega) (fun c _ => b_0 c)⟩
theorem py_is {post : Int32 → Prop} {f k l m : Int32} {att sec fine : Nat → Int32} (s : Nat) (hs : s < 125) (hp : post 1) : wpY_isSetting post (f, k, l, m, att, sec, fine) (nI s) :=
  br_f (nI_pos (by omega)) (br_f (nI_ge (b := 125) hs (by decide)) hp)
theorem py_loL {post : Int32 → Prop} {m : Int32} {val att sec fine : Nat → Int32} (n K L s : Nat) (hs : s < 125) (hn : n ≤ 16) (hK : K ≤ 8) (hL : L ≤ 8) (hA : py_At n val att) (hS : ∀ q, q < n → ∃ c, c < 8 ∧ sec q = nI c) (hp : post (nI (pl_L val sec n K L s))) : ∀ d i, i + d = n → wY_leftOut_15 post (nI s) (nI n) (nI K) (nI L) m att sec fine (d + 1) (nI (pl_c (fun r => !pl_H val sec n K L s r) i)) (nI i) := by
  intro d
  induction d with
  | zero =>
    intro i hi
    obtain rfl : i = n := by omega
    exact br_t (nI_le (Nat.le_refl _) (by omega)) hp
  | succ d ih =>
    intro i hi
    have h1 := ih (i + 1) (by omega)
    refine br_f (nI_ge (by omega) (by omega)) (py_hi n K L s i hs hn hK hL (by omega) hA hS (pl_bz (fun a => ?_) (fun a => ?_)))
    · have a' : (fun r => !pl_H val sec n K L s r) i = true := by
        show (!pl_H val sec n K L s i) = true
        rw [a]
        rfl
      exact nm_r (pl_tI (p := fun r => !pl_H val sec n K L s r) a') (nm_r (nI_1 i) h1)
    · have a' : (fun r => !pl_H val sec n K L s r) i = false := by
        show (!pl_H val sec n K L s i) = false
        rw [a]
        rfl
      rw [pl_f a'] at h1
      exact nm_r (nI_1 i) h1
theorem py_lo {post : Int32 → Prop} {m : Int32} {val att sec fine : Nat → Int32} (n K L s : Nat) (hs : s < 125) (hn : n ≤ 16) (hK : K ≤ 8) (hL : L ≤ 8) (hA : py_At n val att) (hS : ∀ q, q < n → ∃ c, c < 8 ∧ sec q = nI c) (hp : post (nI (pl_L val sec n K L s))) : wpY_leftOut post (nI n, nI K, nI L, m, att, sec, fine) (nI s) := by
  unfold wpY_leftOut
  dsimp only
  exact py_is s hs (br_f (by decide) ⟨n + 1, py_loL n K L s hs hn hK hL hA hS hp n 0 (by omega)⟩)
theorem py_go {post : Int32 → Prop} {val att sec fine : Nat → Int32} (n K L M s : Nat) (hs : s < 125) (hn : n ≤ 16) (hK : K ≤ 8) (hL : L ≤ 8) (hM : M ≤ 16) (hA : py_At n val att) (hS : ∀ q, q < n → ∃ c, c < 8 ∧ sec q = nI c) (hp : post (pl_b (pl_G val sec n K L M s))) : wpY_good post (nI n, nI K, nI L, nI M, att, sec, fine) (nI s) := by
  unfold wpY_good
  dsimp only
  have c : pl_L val sec n K L s ≤ n := pl_cle _ n
  refine py_is s hs (br_f (by decide) (py_lo n K L s hs hn hK hL hA hS (pk_lt M (pl_L val sec n K L s) (fun h => ?_) (fun h => ?_))))
  · rw [show pl_G val sec n K L M s = false from decide_eq_false (Nat.not_le.mpr h)] at hp
    exact hp
  · rw [show pl_G val sec n K L M s = true from decide_eq_true h] at hp
    exact hp
theorem py_juL {post : SY → Prop} {val att sec : Nat → Int32} (n K L M : Nat) (hn : n ≤ 16) (hK : K ≤ 8) (hL : L ≤ 8) (hM : M ≤ 16) (hA : py_At n val att) (hS : ∀ q, q < n → ∃ c, c < 8 ∧ sec q = nI c) (hp : ∀ fine, (∀ j, j < 125 → fine j = pl_b (pl_G val sec n K L M j)) → post (nI n, nI K, nI L, nI M, att, sec, fine)) : ∀ d i fine, i + d = 125 → (∀ j, j < i → fine j = pl_b (pl_G val sec n K L M j)) → wY_judge_2 post (nI n) (nI K) (nI L) (nI M) (d + 1) (nI i) att sec fine := by
  intro d
  induction d with
  | zero =>
    intro i fine hi hf
    obtain rfl : i = 125 := by omega
    exact br_t (nI_le (a := 125) (b := 125) (by decide) (by decide)) (hp fine hf)
  | succ d ih =>
    intro i fine hi hf
    refine br_f (nI_ge (b := 125) (by omega) (by decide)) (py_go n K L M i (by omega) hn hK hL hM hA hS ?_)
    refine ⟨vp_in_nI (by omega) (by decide), nm_r (e' := upd fine i (pl_b (pl_G val sec n K L M i))) (by rw [nI_clamp (by omega), pl_bn]) (nm_r (nI_1 i) (ih (i + 1) _ (by omega) (fun j hj => ?_)))⟩
    by_cases e : j = i
    · subst e
      exact pk_us
    · rw [pk_un e]
      exact hf j (by omega)
theorem py_ju {post : SY → Prop} {val att sec fine : Nat → Int32} (n K L M : Nat) (hn : n ≤ 16) (hK : K ≤ 8) (hL : L ≤ 8) (hM : M ≤ 16) (hA : py_At n val att) (hS : ∀ q, q < n → ∃ c, c < 8 ∧ sec q = nI c) (hp : ∀ fine, (∀ j, j < 125 → fine j = pl_b (pl_G val sec n K L M j)) → post (nI n, nI K, nI L, nI M, att, sec, fine)) : wpY_judge post (nI n, nI K, nI L, nI M, att, sec, fine) :=
  ⟨126, py_juL n K L M hn hK hL hM hA hS hp 125 0 fine (by omega) (fun j hj => absurd hj (by omega))⟩
