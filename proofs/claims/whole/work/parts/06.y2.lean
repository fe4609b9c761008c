/-! the reference's loops over the settings that it has judged: hf says what fine holds -/
def py_Fi (g : Nat → Bool) (fine : Nat → Int32) : Prop := ∀ j, j < 125 → fine j = pl_b (g j)
theorem py_gsL {post : Int32 → SY → Prop} {f k l m : Int32} {att sec fine : Nat → Int32} {g : Nat → Bool} (hf : py_Fi g fine) (hp : post (nI (pl_c g 125)) (f, k, l, m, att, sec, fine)) : ∀ d i, i + d = 125 → wY_goodSettings_8 post f k l m att sec fine (d + 1) (nI (pl_c g i)) (nI i) := by
  intro d
  induction d with
  | zero =>
    intro i hi
    obtain rfl : i = 125 := by omega
    exact br_t (nI_le (a := 125) (b := 125) (by decide) (by decide)) hp
  | succ d ih =>
    intro i hi
    have h1 := ih (i + 1) (by omega)
    refine br_f (nI_ge (b := 125) (by omega) (by decide)) ⟨vp_in_nI (by omega) (by decide), ?_⟩
    rw [nI_clamp (by omega), hf i (by omega)]
    refine pl_bz (fun a => ?_) (fun a => ?_)
    · rw [pl_f a] at h1
      exact nm_r (nI_1 i) h1
    · exact nm_r (pl_tI a) (nm_r (nI_1 i) h1)
theorem py_coS {post : Int32 → Prop} {f k l m : Int32} {att sec fine : Nat → Int32} (s t a d : Nat) (hs : s < 125) (ht : t < 125) (ha : a < 3) (h1 : pl_lv t a ≤ pl_lv s a → wY_coarser_2 post (nI s) (nI t) f k l m att sec fine d (nI (a + 1))) (h2 : pl_lv s a < pl_lv t a → post 0) : wY_coarser_2 post (nI s) (nI t) f k l m att sec fine (d + 1) (nI a) := by
  have c1 := pl_lvl hs a
  have c2 := pl_lvl ht a
  refine br_f (nI_ge (b := 3) ha (by decide)) (py_lv s a hs ha (py_lv t a ht ha ?_))
  exact pk_le (pl_lv t a) (pl_lv s a) (fun e => nm_r (nI_1 a) (h1 e)) h2
theorem py_co {post : Int32 → Prop} {f k l m : Int32} {att sec fine : Nat → Int32} (s t : Nat) (hs : s < 125) (ht : t < 125) (hp : post (pl_b (pl_cb s t))) : wpY_coarser post (f, k, l, m, att, sec, fine) (nI s) (nI t) := by
  unfold pl_cb at hp
  refine ⟨4, py_coS s t 0 3 hs ht (by decide) (fun e0 => ?_) (fun e => ?_)⟩
  rotate_left
  · rw [decide_eq_false (Nat.not_le.mpr e), Bool.false_and] at hp
    exact hp
  rw [decide_eq_true e0, Bool.true_and] at hp
  refine py_coS s t 1 2 hs ht (by decide) (fun e1 => ?_) (fun e => ?_)
  rotate_left
  · rw [decide_eq_false (Nat.not_le.mpr e), Bool.false_and] at hp
    exact hp
  rw [decide_eq_true e1, Bool.true_and] at hp
  refine py_coS s t 2 1 hs ht (by decide) (fun e2 => ?_) (fun e => ?_)
  rotate_left
  · rw [decide_eq_false (Nat.not_le.mpr e), Bool.false_and] at hp
    exact hp
  rw [decide_eq_true e2, Bool.true_and] at hp
  refine br_t (nI_le (a := 3) (b := 3) (by decide) (by decide)) (pk_eq s t (fun e => ?_) (fun e => ?_))
  · rw [decide_eq_true e] at hp
    exact hp
  · rw [decide_eq_false e] at hp
    exact hp
theorem py_ifL {post : Int32 → Prop} {f k l m : Int32} {att sec fine : Nat → Int32} {g : Nat → Bool} (hf : py_Fi g fine) (s : Nat) (hs : s < 125) (hp : post (pl_b (!pl_e (fun t => g t && pl_cb s t) 125))) : ∀ d i, i + d = 125 → (∀ t, t < i → (g t && pl_cb s t) = false) → wY_isFinest_13 post (nI s) f k l m att sec fine (d + 1) (nI i) := by
  intro d
  induction d with
  | zero =>
    intro i hi hn
    obtain rfl : i = 125 := by omega
    have e : pl_e (fun t => g t && pl_cb s t) 125 = false := by
      cases h : pl_e (fun t => g t && pl_cb s t) 125
      · rfl
      · rw [pl_ei] at h
        obtain ⟨t, ht, e⟩ := h
        rw [hn t ht] at e
        exact absurd e (by decide)
    rw [e] at hp
    exact br_t (nI_le (a := 125) (b := 125) (by decide) (by decide)) hp
  | succ d ih =>
    intro i hi hn
    have nx : (g i && pl_cb s i) = false → wY_isFinest_13 post (nI s) f k l m att sec fine (d + 1) (nI (i + 1)) := by
      intro h
      refine ih (i + 1) (by omega) (fun t ht => ?_)
      by_cases e : t = i
      · rw [e]
        exact h
      · exact hn t (by omega)
    refine br_f (nI_ge (b := 125) (by omega) (by decide)) ⟨vp_in_nI (by omega) (by decide), ?_⟩
    rw [nI_clamp (by omega), hf i (by omega)]
    refine pl_bz (fun a => ?_) (fun a => py_co s i hs (by omega) (pl_bz (fun b => ?_) (fun b => ?_)))
    · exact nm_r (nI_1 i) (nx (by rw [a, Bool.false_and]))
    · exact nm_r (nI_1 i) (nx (by rw [b, Bool.and_false]))
    · have e : pl_e (fun t => g t && pl_cb s t) 125 = true := by
        rw [pl_ei]
        exact ⟨i, by omega, by rw [a, b]; rfl⟩
      rw [e] at hp
      exact hp
theorem py_if {post : Int32 → Prop} {f k l m : Int32} {att sec fine : Nat → Int32} {g : Nat → Bool} (hf : py_Fi g fine) (s : Nat) (hs : s < 125) (hp : post (pl_b (pl_fy g s))) : wpY_isFinest post (f, k, l, m, att, sec, fine) (nI s) := by
  unfold wpY_isFinest
  dsimp only
  unfold pl_fy at hp
  refine ⟨vp_in_nI hs (by decide), ?_⟩
  rw [nI_clamp (by omega), hf s hs]
  refine pl_bz (fun a => ?_) (fun a => ?_)
  · rw [a, Bool.false_and] at hp
    exact hp
  · rw [a, Bool.true_and] at hp
    exact ⟨126, py_ifL hf s hs hp 125 0 (by omega) (fun t ht => absurd ht (by omega))⟩
theorem py_fnL {post : Int32 → SY → Prop} {f k l m : Int32} {att sec fine : Nat → Int32} {g : Nat → Bool} (hf : py_Fi g fine) (hp : post (nI (pl_c (pl_fy g) 125)) (f, k, l, m, att, sec, fine)) : ∀ d i, i + d = 125 → wY_finest_8 post f k l m att sec fine (d + 1) (nI (pl_c (pl_fy g) i)) (nI i) := by
  intro d
  induction d with
  | zero =>
    intro i hi
    obtain rfl : i = 125 := by omega
    exact br_t (nI_le (a := 125) (b := 125) (by decide) (by decide)) hp
  | succ d ih =>
    intro i hi
    have h1 := ih (i + 1) (by omega)
    refine br_f (nI_ge (b := 125) (by omega) (by decide)) (py_if hf i (by omega) (pl_bz (fun a => ?_) (fun a => ?_)))
    · rw [pl_f a] at h1
      exact nm_r (nI_1 i) h1
    · exact nm_r (pl_tI a) (nm_r (nI_1 i) h1)
theorem py_faL {post : Int32 → SY → Prop} {f k l m : Int32} {att sec fine : Nat → Int32} {g : Nat → Bool} (hf : py_Fi g fine) (x : Int32) : ∀ d i c, i + d = 125 → post (pl_fa (pl_fy g) x d i c) (f, k, l, m, att, sec, fine) → wY_finestAt_8 post x f k l m att sec fine (d + 1) c (nI i) := by
  intro d
  induction d with
  | zero =>
    intro i c hi hp
    obtain rfl : i = 125 := by omega
    exact br_t (nI_le (a := 125) (b := 125) (by decide) (by decide)) hp
  | succ d ih =>
    intro i c hi hp
    rw [pl_fa] at hp
    dsimp only at hp
    refine br_f (nI_ge (b := 125) (by omega) (by decide)) (py_if hf i (by omega) (pl_bz (fun a => ?_) (fun a => ?_)))
    · rw [a] at hp
      exact nm_r (nI_1 i) (ih (i + 1) c (by omega) hp)
    · rw [if_pos a] at hp
      refine br_c (fun e => ?_) (fun e => ?_)
      · rw [if_pos e] at hp
        exact hp
      · rw [if_neg e] at hp
        exact nm_e (nm_r (nI_1 i) (ih (i + 1) (c + 1) (by omega) hp))
theorem py_sm {post : Int32 → Prop} {f k l m : Int32} {att sec fine : Nat → Int32} (s : Nat) (hs : s < 125) (hp : post (nI (pl_sm s))) : wpY_sum post (f, k, l, m, att, sec, fine) (nI s) := by
  unfold wpY_sum
  dsimp only
  refine py_lv s 0 hs (by decide) (py_lv s 1 hs (by decide) (py_lv s 2 hs (by decide) ?_))
  rw [nI_add, nI_add]
  exact hp
theorem py_beL {post : Int32 → SY → Prop} {f k l m : Int32} {att sec fine : Nat → Int32} {g : Nat → Bool} (hf : py_Fi g fine) (hp : post (pl_ob (pl_bs g 125)) (f, k, l, m, att, sec, fine)) : ∀ d i, i + d = 125 → wY_best_9 post f k l m att sec fine (d + 1) (pl_ob (pl_bs g i)) (nI i) := by
  intro d
  induction d with
  | zero =>
    intro i hi
    obtain rfl : i = 125 := by omega
    exact br_t (nI_le (a := 125) (b := 125) (by decide) (by decide)) hp
  | succ d ih =>
    intro i hi
    have h1 := ih (i + 1) (by omega)
    have hi2 : i < 125 := by omega
    have hs := pl_sml hi2
    refine br_f (nI_ge (b := 125) hi2 (by decide)) ⟨vp_in_nI hi2 (by decide), ?_⟩
    rw [nI_clamp (by omega), hf i hi2]
    refine pl_bz (fun a => ?_) (fun a => ?_)
    · rw [pl_bsf hi2 (Or.inl a)] at h1
      exact nm_r (nI_1 i) h1
    · cases hz : pl_bs g i with
      | none =>
        rw [pl_bst hi2 a (by rw [hz]; exact hs)] at h1
        exact br_t (by decide) (nm_r (nI_1 i) h1)
      | some b =>
        have hb := pl_bsl i b hz
        have hb2 := pl_sml (show b < 125 by omega)
        refine br_f (nI_pos (show b < 2 ^ 31 by omega)) (py_sm i hi2 (py_sm b (by omega) ?_))
        refine pk_le (pl_sm b) (pl_sm i) (fun h => ?_) (fun h => ?_)
        · rw [pl_bsf hi2 (Or.inr (by rw [hz]; exact h)), hz] at h1
          exact nm_r (nI_1 i) h1
        · rw [pl_bst hi2 a (by rw [hz]; exact h)] at h1
          exact nm_r (nI_1 i) h1
theorem py_grI {post : Int32 → Prop} {f k l m : Int32} {val att sec fine : Nat → Int32} {J : Int32 → Int32 → Prop} (n s r : Nat) (hs : s < 125) (hn : n ≤ 16) (hr : r < n) (hA : py_At n val att) (hJ : J (nI (pl_c (pl_g1 val s) (r + 1))) (nI (r + 1))) : ∀ d i, i + d = r → (∀ q, q < i → pl_A val s r q = false) → wY_groups_26 post J (nI s) (nI (pl_c (pl_g1 val s) r)) (nI r) f k l m att sec fine (d + 1) (nI i) := by
  intro d
  induction d with
  | zero =>
    intro i hi hq
    obtain rfl : i = r := by omega
    have a : pl_g1 val s i = true := decide_eq_true (pl_c0 i hq)
    exact br_t (nI_le (Nat.le_refl _) (by omega)) (br_t rfl (nm_r (pl_tI a) (nm_r (nI_1 i) hJ)))
  | succ d ih =>
    intro i hi hq
    refine br_f (nI_ge (by omega) (by omega)) (py_al n s i r hs hn (by omega) hr hA ?_)
    rw [pl_As]
    refine pl_bz (fun a => ?_) (fun a => ?_)
    · refine nm_r (nI_1 i) (ih (i + 1) (by omega) (fun q hq2 => ?_))
      by_cases e : q = i
      · rw [e]
        exact a
      · exact hq q (by omega)
    · have c := pl_c1 (p := fun q => pl_A val s r q) a r (by omega)
      have b : pl_g1 val s r = false := decide_eq_false (by omega)
      rw [pl_f b] at hJ
      refine br_f (fun z => ?_) (nm_r (nI_1 r) hJ)
      rw [nI_eq (by omega) (by omega)] at z
      omega
theorem py_grL {post : Int32 → Prop} {k l m : Int32} {val att sec fine : Nat → Int32} (n s : Nat) (hs : s < 125) (hn : n ≤ 16) (hA : py_At n val att) (hp : post (nI (pl_c (pl_g1 val s) n))) : ∀ d i, i + d = n → wY_groups_15 post (nI s) (nI n) k l m att sec fine (d + 1) (nI (pl_c (pl_g1 val s) i)) (nI i) := by
  intro d
  induction d with
  | zero =>
    intro i hi
    obtain rfl : i = n := by omega
    exact br_t (nI_le (Nat.le_refl _) (by omega)) hp
  | succ d ih =>
    intro i hi
    exact br_f (nI_ge (by omega) (by omega)) ⟨i + 1, py_grI n s i hs hn (by omega) hA (ih (i + 1) (by omega)) i 0 (by omega) (fun q hq => absurd hq (by omega))⟩
theorem py_laL {post : Int32 → Prop} {k l m : Int32} {val att sec fine : Nat → Int32} (n s r : Nat) (hs : s < 125) (hn : n ≤ 16) (hr : r < n) (hA : py_At n val att) (hp : post (nI (pl_c (fun q => pl_A val s r q) n))) : ∀ d i, i + d = n → wY_lookAlike_31 post (nI s) (nI r) (nI n) k l m att sec fine (d + 1) (nI (pl_c (fun q => pl_A val s r q) i)) (nI i) := by
  intro d
  induction d with
  | zero =>
    intro i hi
    obtain rfl : i = n := by omega
    exact br_t (nI_le (Nat.le_refl _) (by omega)) hp
  | succ d ih =>
    intro i hi
    have h1 := ih (i + 1) (by omega)
    refine br_f (nI_ge (by omega) (by omega)) (py_al n s r i hs hn hr (by omega) hA (pl_bz (fun a => ?_) (fun a => ?_)))
    · rw [pl_f (p := fun q => pl_A val s r q) a] at h1
      exact nm_r (nI_1 i) h1
    · exact nm_r (pl_tI (p := fun q => pl_A val s r q) a) (nm_r (nI_1 i) h1)
theorem py_rwS {post : Int32 → SY → Prop} {k l m : Int32} {att sec fine : Nat → Int32} (x y : Int32) (n a d : Nat) (hn : n < 16) (ha : a < 3) (h : wY_row_26 post x y (nI n) k l m d (nI (a + 1)) (upd att (n * 3 + a) (nI (pl_a x a))) sec fine) : wY_row_26 post x y (nI n) k l m (d + 1) (nI a) att sec fine := by
  refine br_f (nI_ge (b := 3) ha (by decide)) ?_
  rw [py_ix, show 4 * nI a = nI (4 * a) from pk_mul 4 a, pl_ae, nI_clamp (by omega)]
  exact ⟨vp_in_nI (by omega) (by decide), nm_e (nm_r (nI_1 a) h)⟩
