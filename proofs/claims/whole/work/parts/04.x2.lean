/-! the component's public methods that only read, each with a general post; hg: what isGood answers -/
def px_Gd (U : SX) (g : Nat → Bool) : Prop := ∀ (post : Int32 → Prop) (s : Nat), s < 125 → post (pl_b (g s)) → wpX_isGood post U (nI s)
theorem px_gsL {post : Int32 → Prop} {f k l m : Int32} {val sec : Nat → Int32} {g : Nat → Bool} (hg : px_Gd (f, k, l, m, val, sec) g) (hp : post (nI (pl_c g 125))) : ∀ d i, i + d = 125 → wX_goodSettings_4 post f k l m val sec (d + 1) (nI (pl_c g i)) (nI i) := by
  intro d
  induction d with
  | zero =>
    intro i hi
    obtain rfl : i = 125 := by omega
    exact br_t (nI_le (a := 125) (b := 125) (by decide) (by decide)) hp
  | succ d ih =>
    intro i hi
    have h1 := ih (i + 1) (by omega)
    refine br_f (nI_ge (b := 125) (by omega) (by decide)) (hg _ i (by omega) (pl_bz (fun a => ?_) (fun a => ?_)))
    · rw [pl_f a] at h1
      exact nm_r (nI_1 i) h1
    · exact nm_r (pl_tI a) (nm_r (nI_1 i) h1)
theorem px_gs {post : Int32 → Prop} {f k l m : Int32} {val sec : Nat → Int32} {g : Nat → Bool} (hg : px_Gd (f, k, l, m, val, sec) g) (hp : post (nI (pl_c g 125))) : wpX_goodSettings post (f, k, l, m, val, sec) :=
  ⟨126, px_gsL hg hp 125 0 (by omega)⟩
theorem px_79 {post : Int32 → Prop} {f k l m : Int32} {val sec : Nat → Int32} (a b c : Bool) (hp : post (pl_b (!a && !b && !c))) : wX_isFinest_79 post (pl_b a) (pl_b b) (pl_b c) f k l m val sec := by
  refine pl_bz (fun ea => pl_bz (fun eb => pl_bz (fun ec => ?_) (fun ec => ?_)) (fun eb => ?_)) (fun ea => ?_)
  · subst ea eb ec
    exact hp
  · subst ea eb ec
    exact hp
  · subst ea eb
    exact hp
  · subst ea
    exact hp
theorem px_56 {post : Int32 → Prop} {f k l m : Int32} {val sec : Nat → Int32} {g : Nat → Bool} (hg : px_Gd (f, k, l, m, val, sec) g) (s : Nat) (hs : s < 125) (a b : Bool) (hp : post (pl_b (!a && !b && !(decide (25 ≤ s) && g (s - 25))))) : wX_isFinest_56 post (nI s) (pl_b a) (pl_b b) f k l m val sec := by
  refine pk_lt s 25 (fun h => ?_) (fun h => ?_)
  · rw [decide_eq_false (Nat.not_le.mpr h), Bool.false_and] at hp
    exact px_79 a b false hp
  · rw [decide_eq_true h, Bool.true_and] at hp
    rw [show nI s - 25 = nI (s - 25) from pk_sub (b := 25) h]
    refine hg _ (s - 25) (by omega) (pl_bz (fun e => ?_) (fun e => ?_))
    · rw [e] at hp
      exact px_79 a b false hp
    · rw [e] at hp
      exact px_79 a b true hp
theorem px_32 {post : Int32 → Prop} {f k l m : Int32} {val sec : Nat → Int32} {g : Nat → Bool} (hg : px_Gd (f, k, l, m, val, sec) g) (s : Nat) (hs : s < 125) (a : Bool) (hp : post (pl_b (!a && !(decide (5 ≤ s % 25) && g (s - 5)) && !(decide (25 ≤ s) && g (s - 25))))) : wX_isFinest_32 post (nI s) (pl_b a) f k l m val sec := by
  refine ⟨by decide, ?_⟩
  rw [px_e25 hs]
  refine pk_lt (s % 25) 5 (fun h => ?_) (fun h => ?_)
  · rw [decide_eq_false (Nat.not_le.mpr h), Bool.false_and] at hp
    exact px_56 hg s hs a false hp
  · rw [decide_eq_true h, Bool.true_and] at hp
    rw [show nI s - 5 = nI (s - 5) from pk_sub (b := 5) (by omega)]
    refine hg _ (s - 5) (by omega) (pl_bz (fun e => ?_) (fun e => ?_))
    · rw [e] at hp
      exact px_56 hg s hs a false hp
    · rw [e] at hp
      exact px_56 hg s hs a true hp
theorem px_if {post : Int32 → Prop} {f k l m : Int32} {val sec : Nat → Int32} {g : Nat → Bool} (hg : px_Gd (f, k, l, m, val, sec) g) (s : Nat) (hs : s < 125) (hp : post (pl_b (pl_fx g s))) : wpX_isFinest post (f, k, l, m, val, sec) (nI s) := by
  unfold wpX_isFinest
  dsimp only
  unfold pl_fx at hp
  refine hg _ s hs (pl_bz (fun e => ?_) (fun e => ⟨by decide, ?_⟩))
  · rw [e] at hp
    exact hp
  · rw [e, Bool.true_and] at hp
    rw [px_e0 hs]
    refine pk_lt (s % 5) 1 (fun h => ?_) (fun h => ?_)
    · rw [decide_eq_false (Nat.not_le.mpr h), Bool.false_and] at hp
      exact px_32 hg s hs false hp
    · rw [decide_eq_true h, Bool.true_and] at hp
      rw [show nI s - 1 = nI (s - 1) from pk_sub (b := 1) (by omega)]
      refine hg _ (s - 1) (by omega) (pl_bz (fun e => ?_) (fun e => ?_))
      · rw [e] at hp
        exact px_32 hg s hs false hp
      · rw [e] at hp
        exact px_32 hg s hs true hp
def px_Fn (U : SX) (g : Nat → Bool) : Prop := ∀ (post : Int32 → Prop) (s : Nat), s < 125 → post (pl_b (g s)) → wpX_isFinest post U (nI s)
theorem px_fnL {post : Int32 → Prop} {f k l m : Int32} {val sec : Nat → Int32} {g : Nat → Bool} (hg : px_Fn (f, k, l, m, val, sec) g) (hp : post (nI (pl_c g 125))) : ∀ d i, i + d = 125 → wX_finest_4 post f k l m val sec (d + 1) (nI (pl_c g i)) (nI i) := by
  intro d
  induction d with
  | zero =>
    intro i hi
    obtain rfl : i = 125 := by omega
    exact br_t (nI_le (a := 125) (b := 125) (by decide) (by decide)) hp
  | succ d ih =>
    intro i hi
    have h1 := ih (i + 1) (by omega)
    refine br_f (nI_ge (b := 125) (by omega) (by decide)) (hg _ i (by omega) (pl_bz (fun a => ?_) (fun a => ?_)))
    · rw [pl_f a] at h1
      exact nm_r (nI_1 i) h1
    · exact nm_r (pl_tI a) (nm_r (nI_1 i) h1)
theorem px_fn {post : Int32 → Prop} {f k l m : Int32} {val sec : Nat → Int32} {g : Nat → Bool} (hg : px_Fn (f, k, l, m, val, sec) g) (hp : post (nI (pl_c g 125))) : wpX_finest post (f, k, l, m, val, sec) :=
  ⟨126, px_fnL hg hp 125 0 (by omega)⟩
theorem px_faL {post : Int32 → Prop} {f k l m : Int32} {val sec : Nat → Int32} {g : Nat → Bool} (hg : px_Fn (f, k, l, m, val, sec) g) (x : Int32) : ∀ d i c, i + d = 125 → post (pl_fa g x d i c) → wX_finestAt_4 post x f k l m val sec (d + 1) c (nI i) := by
  intro d
  induction d with
  | zero =>
    intro i c hi hp
    obtain rfl : i = 125 := by omega
    exact br_t (nI_le (a := 125) (b := 125) (by decide) (by decide)) hp
  | succ d ih =>
    intro i c hi hp
    rw [pl_fa] at hp
    dsimp only at hp
    refine br_f (nI_ge (b := 125) (by omega) (by decide)) (hg _ i (by omega) (pl_bz (fun a => ?_) (fun a => ?_)))
    · rw [a] at hp
      exact nm_r (nI_1 i) (ih (i + 1) c (by omega) hp)
    · rw [if_pos a] at hp
      refine br_c (fun e => ?_) (fun e => ?_)
      · rw [if_pos e] at hp
        exact hp
      · rw [if_neg e] at hp
        exact nm_e (nm_r (nI_1 i) (ih (i + 1) (c + 1) (by omega) hp))
theorem px_fa {post : Int32 → Prop} {f k l m : Int32} {val sec : Nat → Int32} {g : Nat → Bool} (hg : px_Fn (f, k, l, m, val, sec) g) (x : Int32) (hp : post (pl_fa g x 125 0 0)) : wpX_finestAt post (f, k, l, m, val, sec) x :=
  ⟨126, px_faL hg x 125 0 0 (by omega) hp⟩
theorem px_ls {post : Int32 → Prop} (s : Nat) (hs : s < 125) (hp : post (nI (pl_sm s))) : wpX_levelSum post (nI s) := by
  refine ⟨by decide, by decide, by decide, by decide, ?_⟩
  rw [px_e0 hs, px_e1 hs, px_e2 hs, nI_add, nI_add]
  exact hp
theorem px_beL {post : Int32 → Prop} {f k l m : Int32} {val sec : Nat → Int32} {g : Nat → Bool} (hg : px_Gd (f, k, l, m, val, sec) g) (hp : post (pl_ob (pl_bs g 125))) : ∀ d i, i + d = 125 → wX_best_8 post f k l m val sec (d + 1) (pl_ob (pl_bs g i)) (nI (pl_ol (pl_bs g i))) (nI i) := by
  intro d
  induction d with
  | zero =>
    intro i hi
    obtain rfl : i = 125 := by omega
    exact br_t (nI_le (a := 125) (b := 125) (by decide) (by decide)) hp
  | succ d ih =>
    intro i hi
    have h1 := ih (i + 1) (by omega)
    have hi2 : i < 125 := by omega
    have hs := pl_sml hi2
    have hl : pl_ol (pl_bs g i) ≤ 13 := by
      cases hz : pl_bs g i with
      | none => exact Nat.le_refl 13
      | some b => exact Nat.le_of_lt (pl_sml (Nat.lt_trans (pl_bsl i b hz) hi2))
    refine br_f (nI_ge (b := 125) hi2 (by decide)) (px_ls i hi2 ?_)
    refine pk_le (pl_ol (pl_bs g i)) (pl_sm i) (fun h => ?_) (fun h => hg _ i hi2 (pl_bz (fun a => ?_) (fun a => ?_)))
    · rw [pl_bsf hi2 (Or.inr h)] at h1
      exact nm_r (nI_1 i) h1
    · rw [pl_bsf hi2 (Or.inl a)] at h1
      exact nm_r (nI_1 i) h1
    · rw [pl_bst hi2 a h] at h1
      exact nm_r (nI_1 i) h1
theorem px_be {post : Int32 → Prop} {f k l m : Int32} {val sec : Nat → Int32} {g : Nat → Bool} (hg : px_Gd (f, k, l, m, val, sec) g) (hp : post (pl_ob (pl_bs g 125))) : wpX_best post (f, k, l, m, val, sec) :=
  ⟨126, px_beL hg hp 125 0 (by omega)⟩
/-- r is the first of its group -/
def pl_g1 (val : Nat → Int32) (s r : Nat) : Bool := decide (pl_c (fun q => pl_A val s r q) r = 0)
theorem px_grL {post : Int32 → Prop} {k l m : Int32} {val sec : Nat → Int32} (n s : Nat) (hs : s < 125) (hn : n ≤ 16) (hp : post (nI (pl_c (pl_g1 val s) n))) : ∀ d i, i + d = n → wX_groups_14 post (nI s) (nI n) k l m val sec (d + 1) (nI (pl_c (pl_g1 val s) i)) (nI i) := by
  intro d
  induction d with
  | zero =>
    intro i hi
    obtain rfl : i = n := by omega
    exact br_t (nI_le (Nat.le_refl _) (by omega)) hp
  | succ d ih =>
    intro i hi
    have h1 := ih (i + 1) (by omega)
    have c := pl_cle (fun q => pl_A val s i q) i
    refine br_f (nI_ge (by omega) (by omega)) (px_ca s i i hs (by omega) (by omega) ?_)
    refine pk_eq (pl_c (fun q => pl_A val s i q) i) 0 (fun h => ?_) (fun h => ?_)
    · exact nm_r (pl_tI (p := pl_g1 val s) (decide_eq_true h)) (nm_r (nI_1 i) h1)
    · rw [pl_f (p := pl_g1 val s) (decide_eq_false h)] at h1
      exact nm_r (nI_1 i) h1
