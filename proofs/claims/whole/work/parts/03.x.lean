/-! the component's private methods, each with a general post -/
theorem px_e0 {s : Nat} (hs : s < 125) : nI s - nI s / 5 * 5 = nI (s % 5) := pk_rem (d := 5) (by omega) (by omega) (by omega)
theorem px_e25 {s : Nat} (hs : s < 125) : nI s - nI s / 25 * 25 = nI (s % 25) := pk_rem (d := 25) (by omega) (by omega) (by omega)
theorem px_e1 {s : Nat} (hs : s < 125) : (nI s - nI s / 25 * 25) / 5 = nI (s / 5 % 5) := by
  rw [px_e25 hs]
  exact (pk_div (d := 5) (by omega) (by omega) (by omega)).trans (congrArg nI (by omega))
theorem px_e2 {s : Nat} (hs : s < 125) : nI s / 25 = nI (s / 25) := pk_div (d := 25) (by omega) (by omega) (by omega)
theorem px_shown {post : Int32 → Prop} {f k l m : Int32} {val sec : Nat → Int32} (s r : Nat) (hs : s < 125) (hr : r < 16) (h : post (nI (pl_sh val s r))) : wpX_shown post (f, k, l, m, val, sec) (nI s) (nI r) := by
  unfold wpX_shown
  dsimp only
  refine ⟨vp_in_nI hr (by decide), nm_r (congrArg val (nI_clamp (by omega))) ⟨by decide, nm_r (e' := nI (pl_h (val r) s 0)) ?_ ⟨by decide, by decide, nm_r (e' := nI (pl_h (val r) s 1)) ?_ ⟨by decide, nm_r (e' := nI (pl_h (val r) s 2)) ?_ ?_⟩⟩⟩⟩
  · rw [px_e0 hs, pl_a0]
    exact pl_s2 _ (by omega) _ (pl_al _ _)
  · rw [px_e1 hs, show (val r >>> ((4 : Int32) &&& 31)) &&& 15 = nI (pl_a (val r) 1) from pl_ae (val r) 1]
    exact pl_s2 _ (by omega) _ (pl_al _ _)
  · rw [px_e2 hs, show (val r >>> ((8 : Int32) &&& 31)) &&& 15 = nI (pl_a (val r) 2) from pl_ae (val r) 2]
    exact pl_s2 _ (by omega) _ (pl_al _ _)
  · rw [pl_s3 _ (pl_hl _ _ _) _ (pl_hl _ _ _) _ (pl_hl _ _ _)]
    exact h
theorem px_caL {post : Int32 → Prop} {f k l m : Int32} {val sec : Nat → Int32} (s r e : Nat) (hs : s < 125) (he : e ≤ 16) (hp : post (nI (pl_c (fun q => pl_A val s r q) e))) : ∀ d i, i + d = e → wX_countAlike_14 post (nI s) (nI e) (nI (pl_sh val s r)) f k l m val sec (d + 1) (nI (pl_c (fun q => pl_A val s r q) i)) (nI i) := by
  intro d
  induction d with
  | zero =>
    intro i hi
    obtain rfl : i = e := by omega
    exact br_t (nI_le (Nat.le_refl _) (by omega)) hp
  | succ d ih =>
    intro i hi
    have h1 := ih (i + 1) (by omega)
    refine br_f (nI_ge (by omega) (by omega)) (px_shown s i hs (by omega) ?_)
    refine pk_eq (pl_sh val s i) (pl_sh val s r) (fun h => ?_) (fun h => ?_) rfl rfl (pl_shl _ _ _) (pl_shl _ _ _)
    · have a : pl_A val s r i = true := decide_eq_true h.symm
      exact nm_r (pl_tI (p := fun q => pl_A val s r q) a) (nm_r (nI_1 i) h1)
    · have a : pl_A val s r i = false := decide_eq_false (fun z => h z.symm)
      rw [pl_f (p := fun q => pl_A val s r q) a] at h1
      exact nm_r (nI_1 i) h1
theorem px_ca {post : Int32 → Prop} {f k l m : Int32} {val sec : Nat → Int32} (s r e : Nat) (hs : s < 125) (hr : r < 16) (he : e ≤ 16) (hp : post (nI (pl_c (fun q => pl_A val s r q) e))) : wpX_countAlike post (f, k, l, m, val, sec) (nI s) (nI r) (nI e) := by
  unfold wpX_countAlike
  dsimp only
  exact px_shown s r hs hr ⟨e + 1, px_caL s r e hs he hp e 0 (by omega)⟩
theorem px_csL {post : Int32 → Prop} {k l m : Int32} {val sec : Nat → Int32} (n s r : Nat) (hs : s < 125) (hn : n ≤ 16) (hS : ∀ q, q < n → ∃ c, c < 8 ∧ sec q = nI c) (hp : post (nI (pl_D val sec n s r))) : ∀ d i seen, i + d = n → (∀ c, c < 8 → bt seen c = pl_e (fun q => pl_A val s r q && decide ((sec q).toNatClampNeg = c)) i) → wX_countSecrets_16 post (nI s) (nI (pl_sh val s r)) (nI n) k l m val sec (d + 1) seen (nI (pl_c (bt seen) 8)) (nI i) := by
  intro d
  induction d with
  | zero =>
    intro i seen hi hb
    obtain rfl : i = n := by omega
    have e : pl_c (bt seen) 8 = pl_D val sec i s r := pl_cc 8 hb
    rw [e]
    exact br_t (nI_le (Nat.le_refl _) (by omega)) hp
  | succ d ih =>
    intro i seen hi hb
    obtain ⟨c, hc, ec⟩ := hS i (by omega)
    have cc : (sec i).toNatClampNeg = c := by rw [ec, nI_clamp (by omega)]
    refine br_f (nI_ge (by omega) (by omega)) ⟨vp_in_nI (by omega) (by decide), nm_r (e' := (1 : Int32) <<< (nI c &&& 31)) (by rw [nI_clamp (by omega), ec]) ?_⟩
    have st : ∀ x, pl_e (fun q => pl_A val s r q && decide ((sec q).toNatClampNeg = x)) (i + 1) = (pl_e (fun q => pl_A val s r q && decide ((sec q).toNatClampNeg = x)) i || (pl_A val s r i && decide (c = x))) := by
      intro x
      show (_ || (pl_A val s r i && decide ((sec i).toNatClampNeg = x))) = _
      rw [cc]
    by_cases hz : bt seen c = false
    · refine br_t ((pl_b4 seen hc).mpr hz) (px_shown s i hs (by omega) ?_)
      refine pk_eq (pl_sh val s i) (pl_sh val s r) (fun h => ?_) (fun h => ?_) rfl rfl (pl_shl _ _ _) (pl_shl _ _ _)
      · have a : pl_A val s r i = true := decide_eq_true h.symm
        have e : pl_c (bt (seen ||| ((1 : Int32) <<< (nI c &&& 31)))) 8 = pl_c (bt seen) 8 + 1 := by
          refine pl_ins (c := c) hz ?_ 8 hc (fun x hx hn => ?_)
          · rw [pl_b6 seen hc hc, decide_eq_true rfl, Bool.or_true]
          · rw [pl_b6 seen hc hx, decide_eq_false hn, Bool.or_false]
        have h1 := ih (i + 1) (seen ||| ((1 : Int32) <<< (nI c &&& 31))) (by omega) (fun x hx => by
          rw [pl_b6 seen hc hx, hb x hx, st x, a, Bool.true_and]
          exact congrArg (fun z => _ || z) (decide_eq_decide.mpr ⟨Eq.symm, Eq.symm⟩))
        rw [e] at h1
        exact nm_e (nm_r (nI_1 _) (nm_r (nI_1 i) h1))
      · have a : pl_A val s r i = false := decide_eq_false (fun z => h z.symm)
        exact nm_r (nI_1 i) (ih (i + 1) seen (by omega) (fun x hx => by rw [hb x hx, st x, a, Bool.false_and, Bool.or_false]))
    · refine br_f (fun z => hz ((pl_b4 seen hc).mp z)) (nm_r (nI_1 i) (ih (i + 1) seen (by omega) (fun x hx => ?_)))
      rw [st x, ← hb x hx]
      by_cases e : c = x
      · subst e
        have : bt seen c = true := by
          cases h : bt seen c
          · exact absurd h hz
          · rfl
        rw [this]
        rfl
      · rw [decide_eq_false e, Bool.and_false, Bool.or_false]
theorem px_cs {post : Int32 → Prop} {k l m : Int32} {val sec : Nat → Int32} (n s r : Nat) (hs : s < 125) (hr : r < 16) (hn : n ≤ 16) (hS : ∀ q, q < n → ∃ c, c < 8 ∧ sec q = nI c) (hp : post (nI (pl_D val sec n s r))) : wpX_countSecrets post (nI n, k, l, m, val, sec) (nI s) (nI r) := by
  unfold wpX_countSecrets
  dsimp only
  refine px_shown s r hs hr ⟨n + 1, ?_⟩
  have h := px_csL (k := k) (l := l) (m := m) n s r hs hn hS hp n 0 0 (by omega) (fun c _ => b_0 c)
  rw [pl_c0 8 (fun i _ => b_0 i)] at h
  exact h
theorem px_loL {post : Int32 → Prop} {m : Int32} {val sec : Nat → Int32} (n K L s : Nat) (hs : s < 125) (hn : n ≤ 16) (hK : K ≤ 8) (hL : L ≤ 8) (hS : ∀ q, q < n → ∃ c, c < 8 ∧ sec q = nI c) (hp : post (nI (pl_L val sec n K L s))) : ∀ d i, i + d = n → wX_countLeftOut_4 post (nI s) (nI n) (nI K) (nI L) m val sec (d + 1) (nI (pl_c (fun r => !pl_H val sec n K L s r) i)) (nI i) := by
  intro d
  induction d with
  | zero =>
    intro i hi
    obtain rfl : i = n := by omega
    exact br_t (nI_le (Nat.le_refl _) (by omega)) hp
  | succ d ih =>
    intro i hi
    have h1 := ih (i + 1) (by omega)
    have no : pl_H val sec n K L s i = false → wX_countLeftOut_46 post (wX_countLeftOut_4 post (nI s) (nI n) (nI K) (nI L) m val sec (d + 1)) (nI s) (nI (pl_c (fun r => !pl_H val sec n K L s r) i)) (nI i) (nI n) (nI K) (nI L) m val sec := by
      intro a
      have a' : (fun r => !pl_H val sec n K L s r) i = true := by
        show (!pl_H val sec n K L s i) = true
        rw [a]
        rfl
      exact br_t rfl (nm_r (pl_tI (p := fun r => !pl_H val sec n K L s r) a') (nm_r (nI_1 i) h1))
    have c1 := pl_cle (fun q => pl_A val s i q) n
    have c2 : pl_D val sec n s i ≤ 8 := pl_cle _ 8
    refine br_f (nI_ge (by omega) (by omega)) (px_ca s i n hs (by omega) hn ?_)
    refine pk_lt (pl_c (fun q => pl_A val s i q) n) K (fun h => no ?_) (fun h => px_cs n s i hs (by omega) hn hS ?_)
    · unfold pl_H
      rw [decide_eq_false (Nat.not_le.mpr h), Bool.false_and]
    · refine pk_lt (pl_D val sec n s i) L (fun h2 => no ?_) (fun h2 => ?_)
      · unfold pl_H
        rw [decide_eq_false (Nat.not_le.mpr h2), Bool.and_false]
      · have a' : (fun r => !pl_H val sec n K L s r) i = false := by
          show (!pl_H val sec n K L s i) = false
          unfold pl_H
          rw [decide_eq_true h, decide_eq_true h2]
          rfl
        rw [pl_f a'] at h1
        exact br_f (by decide) (nm_r (nI_1 i) h1)
theorem px_lo {post : Int32 → Prop} {m : Int32} {val sec : Nat → Int32} (n K L s : Nat) (hs : s < 125) (hn : n ≤ 16) (hK : K ≤ 8) (hL : L ≤ 8) (hS : ∀ q, q < n → ∃ c, c < 8 ∧ sec q = nI c) (hp : post (nI (pl_L val sec n K L s))) : wpX_countLeftOut post (nI n, nI K, nI L, m, val, sec) (nI s) :=
  ⟨n + 1, px_loL n K L s hs hn hK hL hS hp n 0 (by omega)⟩
theorem px_go {post : Int32 → Prop} {val sec : Nat → Int32} (n K L M s : Nat) (hs : s < 125) (hn : n ≤ 16) (hK : K ≤ 8) (hL : L ≤ 8) (hM : M ≤ 16) (hS : ∀ q, q < n → ∃ c, c < 8 ∧ sec q = nI c) (hp : post (pl_b (pl_G val sec n K L M s))) : wpX_isGood post (nI n, nI K, nI L, nI M, val, sec) (nI s) := by
  unfold wpX_isGood
  dsimp only
  have c : pl_L val sec n K L s ≤ n := pl_cle _ n
  refine px_lo n K L s hs hn hK hL hS (pk_lt M (pl_L val sec n K L s) (fun h => ?_) (fun h => ?_))
  · rw [show pl_G val sec n K L M s = false from decide_eq_false (Nat.not_le.mpr h)] at hp
    exact hp
  · rw [show pl_G val sec n K L M s = true from decide_eq_true h] at hp
    exact hp
