section
theorem pk_us {f : Nat → Int32} {k : Nat} {x : Int32} : upd f k x k = x := if_pos rfl
theorem pk_un {f : Nat → Int32} {k j : Nat} {x : Int32} (h : j ≠ k) : upd f k x j = f j := if_neg h
theorem pk_sub {a b : Nat} (h : b ≤ a) : nI a - nI b = nI (a - b) := by
  obtain ⟨c, rfl⟩ : ∃ c, a = c + b := ⟨a - b, by omega⟩
  rw [← nI_add, Int32.add_sub_cancel, Nat.add_sub_cancel]
theorem pk_mul (a b : Nat) : nI a * nI b = nI (a * b) := (Int32.ofNat_mul a b).symm
theorem pk_div {a d : Nat} (ha : a < 2 ^ 31) (h0 : 0 < d) (hd : d < 2 ^ 31) : nI a / nI d = nI (a / d) := by
  apply Int32.toInt_inj.mp
  rw [lg_idiv_nonneg (by rw [nI_toInt ha]; omega) (by rw [nI_toInt hd]; omega), nI_toInt ha, nI_toInt hd, nI_toInt (Nat.lt_of_le_of_lt (Nat.div_le_self a d) ha)]
  first | rfl | exact (Int.natCast_ediv _ _).symm
theorem pk_rem {a d : Nat} (ha : a < 2 ^ 31) (h0 : 0 < d) (hd : d < 2 ^ 31) : nI a - nI a / nI d * nI d = nI (a % d) := by
  rw [pk_div ha h0 hd, pk_mul, pk_sub (Nat.div_mul_le_self a d)]
  exact congrArg nI (by have := Nat.div_add_mod' a d; omega)
theorem pk_ix (x : Int32) {n : Nat} (hn : n < 2 ^ 31) : x < 0 ∨ nI n ≤ x ∨ ∃ j : Nat, j < n ∧ x = nI j := by
  by_cases h : x < 0
  · exact Or.inl h
  · obtain ⟨j, hj, rfl⟩ := nI_of h
    by_cases h2 : j < n
    · exact Or.inr (Or.inr ⟨j, h2, rfl⟩)
    · exact Or.inr (Or.inl (nI_le (by omega) hj))
theorem pk_le {x y : Int32} {A B : Prop} (a b : Nat) (f : a ≤ b → A) (g : b < a → B) (hx : x = nI a := by rfl) (hy : y = nI b := by rfl) (ha : a < 2 ^ 31 := by omega) (hb : b < 2 ^ 31 := by omega) : (x ≤ y → A) ∧ (¬ x ≤ y → B) := by
  subst hx hy
  rw [nI_leI ha hb]
  exact ⟨f, fun z => g (by omega)⟩
theorem pk_lt {x y : Int32} {A B : Prop} (a b : Nat) (f : a < b → A) (g : b ≤ a → B) (hx : x = nI a := by rfl) (hy : y = nI b := by rfl) (ha : a < 2 ^ 31 := by omega) (hb : b < 2 ^ 31 := by omega) : (x < y → A) ∧ (¬ x < y → B) := by
  subst hx hy
  rw [nI_ltI ha hb]
  exact ⟨f, fun z => g (by omega)⟩
theorem pk_eq {x y : Int32} {A B : Prop} (a b : Nat) (f : a = b → A) (g : a ≠ b → B) (hx : x = nI a := by rfl) (hy : y = nI b := by rfl) (ha : a < 2 ^ 31 := by omega) (hb : b < 2 ^ 31 := by omega) : (x = y → A) ∧ (¬ x = y → B) := by
  subst hx hy
  rw [nI_eq ha hb]
  exact ⟨f, g⟩
theorem pk_tn {n : Nat} (h : n < 2 ^ 32) : (nI n).toBitVec.toNat = n := Nat.mod_eq_of_lt h
theorem pk_and (x : Int32) {m : Int32} (k : Nat) (hm : m.toBitVec.toNat = 2 ^ k - 1) : x &&& m = nI (x.toBitVec.toNat % 2 ^ k) := by
  apply Int32.toBitVec_inj.mp
  apply BitVec.eq_of_toNat_eq
  rw [Int32.toBitVec_and, BitVec.toNat_and, hm, Nat.and_two_pow_sub_one_eq_mod]
  show _ = (BitVec.ofNat 32 _).toNat
  rw [BitVec.toNat_ofNat]
  exact (Nat.mod_eq_of_lt (Nat.lt_of_le_of_lt (Nat.mod_le _ _) x.toBitVec.isLt)).symm
theorem pk_shr (a s : Int32) (k : Nat) (hs : (s.toBitVec.smod 32).toNat = k) : (a >>> s).toInt = a.toInt >>> k := by
  show (a.toBitVec.sshiftRight (s.toBitVec.smod 32).toNat).toInt = _
  rw [hs, BitVec.toInt_sshiftRight]
  rfl
theorem pk_shrN {n : Nat} (h : n < 2 ^ 31) (s : Int32) (k : Nat) (hs : (s.toBitVec.smod 32).toNat = k) : nI n >>> s = nI (n / 2 ^ k) := by
  apply Int32.toInt_inj.mp
  have h2 : n / 2 ^ k ≤ n := Nat.div_le_self _ _
  rw [pk_shr _ _ k hs, nI_toInt h, nI_toInt (by omega), Int.shiftRight_eq_div_pow]
  rfl
theorem sb_shr0 (x : Int32) : x >>> ((0 : Int32) &&& 31) = x := by
  rw [show ((0 : Int32) &&& 31) = 0 by decide]
  simp
def bt (x : Int32) (i : Nat) : Bool := x.toBitVec.getLsbD i
theorem b_ext {x y : Int32} (h : ∀ i, i < 32 → bt x i = bt y i) : x = y := Int32.toBitVec_inj.mp (BitVec.eq_of_getLsbD_eq (fun i hi => h i hi))
theorem b_or (x y : Int32) (i : Nat) : bt (x ||| y) i = (bt x i || bt y i) := by unfold bt; rw [Int32.toBitVec_or, BitVec.getLsbD_or]
theorem b_and (x y : Int32) (i : Nat) : bt (x &&& y) i = (bt x i && bt y i) := by unfold bt; rw [Int32.toBitVec_and, BitVec.getLsbD_and]
theorem b_0 (i : Nat) : bt 0 i = false := BitVec.getLsbD_zero
theorem s_l : ∀ n, n < 32 → ((nI n &&& 31).toBitVec.smod 32).toNat = n := by decide +kernel
theorem b_sshr (n : Nat) (hn : n < 32) (x : Int32) {i : Nat} (hi : i < 32) : bt (x >>> (nI n &&& 31)) i = if n + i < 32 then bt x (n + i) else bt x 31 := by
  unfold bt
  rw [Int32.toBitVec_shiftRight]
  show (x.toBitVec.sshiftRight ((nI n &&& 31).toBitVec.smod 32).toNat).getLsbD i = _
  rw [s_l n hn, BitVec.getLsbD_sshiftRight, BitVec.msb_eq_getLsbD_last]
  simp [hi]
end
section
/-! counting below a bound, and whether there is one -/
def pl_c (p : Nat → Bool) : Nat → Nat
  | 0 => 0
  | n + 1 => pl_c p n + (if p n then 1 else 0)
def pl_e (p : Nat → Bool) : Nat → Bool
  | 0 => false
  | n + 1 => pl_e p n || p n
/-- a boolean as the machine holds it -/
def pl_b (b : Bool) : Int32 := if b then 1 else 0
theorem pl_t {p : Nat → Bool} {i : Nat} (h : p i = true) : pl_c p (i + 1) = pl_c p i + 1 := by
  show pl_c p i + (if p i then 1 else 0) = _
  rw [if_pos h]
theorem pl_f {p : Nat → Bool} {i : Nat} (h : p i = false) : pl_c p (i + 1) = pl_c p i := by
  show pl_c p i + (if p i then 1 else 0) = _
  rw [h]
  rfl
theorem pl_tI {p : Nat → Bool} {i : Nat} (h : p i = true) : nI (pl_c p i) + 1 = nI (pl_c p (i + 1)) := by
  rw [pl_t h, nI_1]
theorem pl_cle (p : Nat → Bool) : ∀ n, pl_c p n ≤ n := by
  intro n
  induction n with
  | zero => exact Nat.le_refl 0
  | succ n ih =>
    cases h : p n
    · rw [pl_f h]; omega
    · rw [pl_t h]; omega
theorem pl_cc {p q : Nat → Bool} : ∀ n, (∀ i, i < n → p i = q i) → pl_c p n = pl_c q n := by
  intro n
  induction n with
  | zero => intro _; rfl
  | succ n ih =>
    intro h
    have a := ih (fun i hi => h i (by omega))
    have b := h n (by omega)
    cases hq : q n
    · rw [pl_f hq, pl_f (b.trans hq), a]
    · rw [pl_t hq, pl_t (b.trans hq), a]
theorem pl_cm {p q : Nat → Bool} : ∀ n, (∀ i, i < n → p i = true → q i = true) → pl_c p n ≤ pl_c q n := by
  intro n
  induction n with
  | zero => intro _; exact Nat.le_refl 0
  | succ n ih =>
    intro h
    have a := ih (fun i hi => h i (by omega))
    cases hp : p n
    · rw [pl_f hp]
      exact Nat.le_trans a (Nat.le_add_right _ _)
    · rw [pl_t hp, pl_t (h n (by omega) hp)]
      omega
theorem pl_ins {p q : Nat → Bool} {c : Nat} (hp : p c = false) (hq : q c = true) : ∀ n, c < n → (∀ i, i < n → i ≠ c → q i = p i) → pl_c q n = pl_c p n + 1 := by
  intro n
  induction n with
  | zero => intro h; omega
  | succ n ih =>
    intro h ho
    by_cases e : c = n
    · subst e
      rw [pl_t hq, pl_f hp, pl_cc c (fun i hi => ho i (by omega) (by omega))]
    · have a := ih (by omega) (fun i hi hn => ho i (by omega) hn)
      have b := ho n (by omega) (fun z => e z.symm)
      cases hz : p n
      · rw [pl_f hz, pl_f (b.trans hz), a]
      · rw [pl_t hz, pl_t (b.trans hz), a]
theorem pl_c0 {p : Nat → Bool} : ∀ n, (∀ i, i < n → p i = false) → pl_c p n = 0 := by
  intro n
  induction n with
  | zero => intro _; rfl
  | succ n ih =>
    intro h
    rw [pl_f (h n (by omega))]
    exact ih (fun i hi => h i (by omega))
theorem pl_c1 {p : Nat → Bool} {c : Nat} (hc : p c = true) : ∀ n, c < n → 0 < pl_c p n := by
  intro n
  induction n with
  | zero => intro h; omega
  | succ n ih =>
    intro h
    by_cases e : c = n
    · subst e
      rw [pl_t hc]
      omega
    · have a := ih (by omega)
      exact Nat.lt_of_lt_of_le a (Nat.le_add_right _ _)
theorem pl_ei {p : Nat → Bool} : ∀ n, pl_e p n = true ↔ ∃ i, i < n ∧ p i = true := by
  intro n
  induction n with
  | zero => exact ⟨fun z => absurd (show false = true from z) (by decide), fun ⟨i, hi, _⟩ => absurd hi (by omega)⟩
  | succ n ih =>
    show (pl_e p n || p n) = true ↔ _
    rw [Bool.or_eq_true, ih]
    constructor
    · rintro (⟨i, hi, h⟩ | h)
      · exact ⟨i, by omega, h⟩
      · exact ⟨n, by omega, h⟩
    · rintro ⟨i, hi, h⟩
      by_cases e : i = n
      · subst e
        exact Or.inr h
      · exact Or.inl ⟨i, by omega, h⟩
theorem pl_bz {b : Bool} {A B : Prop} (f : b = false → A) (g : b = true → B) : (pl_b b = 0 → A) ∧ (¬ pl_b b = 0 → B) := by
  cases b
  · exact br_t rfl (f rfl)
  · exact br_f (by decide) (g rfl)
theorem pl_bn (b : Bool) : vp_nar .boolean (pl_b b) = pl_b b := by
  cases b <;> rfl
/-! bits and small tables -/
theorem pl_b1 : ∀ c, c < 8 → ∀ i, i < 32 → bt ((1 : Int32) <<< (nI c &&& 31)) i = decide (i = c) := by decide +kernel
theorem pl_b2 : ∀ b : Bool, ∀ i, i < 32 → bt (nI (if b then 1 else 0)) i = (b && decide (i = 0)) := by decide +kernel
theorem pl_b3 : ∀ i, i < 32 → bt 1 i = decide (i = 0) := by decide +kernel
theorem pl_b4 (x : Int32) {c : Nat} (hc : c < 8) : (x &&& ((1 : Int32) <<< (nI c &&& 31))) = 0 ↔ bt x c = false := by
  constructor
  · intro h
    have a : bt (x &&& ((1 : Int32) <<< (nI c &&& 31))) c = false := by rw [h, b_0]
    rw [b_and, pl_b1 c hc c (by omega), decide_eq_true rfl, Bool.and_true] at a
    exact a
  · intro h
    refine b_ext (fun i hi => ?_)
    rw [b_and, pl_b1 c hc i hi, b_0]
    by_cases e : i = c
    · subst e
      rw [h]
      rfl
    · rw [decide_eq_false e, Bool.and_false]
theorem pl_b5 (x : Int32) {c : Nat} (hc : c < 8) : (x >>> (nI c &&& 31)) &&& 1 = nI (if bt x c then 1 else 0) := by
  refine b_ext (fun i hi => ?_)
  rw [b_and, pl_b3 i hi, pl_b2 _ i hi]
  by_cases e : i = 0
  · subst e
    rw [b_sshr c (by omega) x (by omega), if_pos (by omega)]
    rfl
  · rw [decide_eq_false e, Bool.and_false, Bool.and_false]
theorem pl_b6 (x : Int32) {c : Nat} (hc : c < 8) {i : Nat} (hi : i < 8) : bt (x ||| ((1 : Int32) <<< (nI c &&& 31))) i = (bt x i || decide (i = c)) := by
  rw [b_or, pl_b1 c hc i (by omega)]
theorem pl_s1 : ∀ l, l < 5 → (1 : Int32) <<< (nI l &&& 31) = nI (2 ^ l) := by decide +kernel
theorem pl_s2 : ∀ l, l < 5 → ∀ a, a < 16 → nI a >>> (nI l &&& 31) = nI (a / 2 ^ l) := by decide +kernel
theorem pl_s3 : ∀ a, a < 16 → ∀ b, b < 16 → ∀ c, c < 16 → (nI a ||| (nI b <<< ((4 : Int32) &&& 31))) ||| (nI c <<< ((8 : Int32) &&& 31)) = nI (a + 16 * b + 256 * c) := by decide +kernel
theorem pl_s4 : ∀ l, l < 5 → 0 < 2 ^ l ∧ 2 ^ l < 2 ^ 31 := by decide +kernel
/-! attributes, levels, what is shown -/
def pl_a (x : Int32) (a : Nat) : Nat := (x >>> (nI (4 * a) &&& 31)).toBitVec.toNat % 2 ^ 4
theorem pl_ae (x : Int32) (a : Nat) : (x >>> (nI (4 * a) &&& 31)) &&& 15 = nI (pl_a x a) := pk_and _ 4 (by decide)
theorem pl_a0 (x : Int32) : x &&& 15 = nI (pl_a x 0) := by
  have h := pl_ae x 0
  rw [show nI (4 * 0) = 0 from rfl, sb_shr0] at h
  exact h
theorem pl_al (x : Int32) (a : Nat) : pl_a x a < 16 := Nat.mod_lt _ (by decide)
def pl_lv (s a : Nat) : Nat := if a = 0 then s % 5 else if a = 1 then s / 5 % 5 else s / 25
theorem pl_lvl {s : Nat} (hs : s < 125) (a : Nat) : pl_lv s a < 5 := by
  unfold pl_lv
  split
  · omega
  · split <;> omega
def pl_h (x : Int32) (s a : Nat) : Nat := pl_a x a / 2 ^ pl_lv s a
theorem pl_hl (x : Int32) (s a : Nat) : pl_h x s a < 16 := Nat.lt_of_le_of_lt (Nat.div_le_self _ _) (pl_al x a)
def pl_sh (val : Nat → Int32) (s r : Nat) : Nat := pl_h (val r) s 0 + 16 * pl_h (val r) s 1 + 256 * pl_h (val r) s 2
theorem pl_shl (val : Nat → Int32) (s r : Nat) : pl_sh val s r < 2 ^ 31 := by
  have a := pl_hl (val r) s 0
  have b := pl_hl (val r) s 1
  have c := pl_hl (val r) s 2
  unfold pl_sh
  omega
def pl_A (val : Nat → Int32) (s r q : Nat) : Bool := decide (pl_sh val s r = pl_sh val s q)
theorem pl_Ai {val : Nat → Int32} {s r q : Nat} : pl_A val s r q = true ↔ pl_h (val r) s 0 = pl_h (val q) s 0 ∧ pl_h (val r) s 1 = pl_h (val q) s 1 ∧ pl_h (val r) s 2 = pl_h (val q) s 2 := by
  have a := pl_hl (val r) s 0
  have b := pl_hl (val r) s 1
  have c := pl_hl (val r) s 2
  have a' := pl_hl (val q) s 0
  have b' := pl_hl (val q) s 1
  have c' := pl_hl (val q) s 2
  unfold pl_A pl_sh
  rw [decide_eq_true_eq]
  omega
theorem pl_As (val : Nat → Int32) (s r q : Nat) : pl_A val s r q = pl_A val s q r := by
  unfold pl_A
  exact decide_eq_decide.mpr ⟨Eq.symm, Eq.symm⟩
/-! hidden enough, left out, good -/
def pl_D (val sec : Nat → Int32) (n s r : Nat) : Nat := pl_c (fun c => pl_e (fun q => pl_A val s r q && decide ((sec q).toNatClampNeg = c)) n) 8
def pl_H (val sec : Nat → Int32) (n K L s r : Nat) : Bool := decide (K ≤ pl_c (fun q => pl_A val s r q) n) && decide (L ≤ pl_D val sec n s r)
def pl_L (val sec : Nat → Int32) (n K L s : Nat) : Nat := pl_c (fun r => !pl_H val sec n K L s r) n
def pl_G (val sec : Nat → Int32) (n K L M s : Nat) : Bool := decide (pl_L val sec n K L s ≤ M)
/-- s is t, or coarser -/
def pl_co (s t : Nat) : Prop := pl_lv t 0 ≤ pl_lv s 0 ∧ pl_lv t 1 ≤ pl_lv s 1 ∧ pl_lv t 2 ≤ pl_lv s 2
theorem pl_dv {a b m n : Nat} (h : m ≤ n) (e : a / 2 ^ m = b / 2 ^ m) : a / 2 ^ n = b / 2 ^ n := by
  obtain ⟨d, rfl⟩ : ∃ d, n = m + d := ⟨n - m, by omega⟩
  rw [Nat.pow_add, ← Nat.div_div_eq_div_mul, ← Nat.div_div_eq_div_mul, e]
theorem pl_Am {val : Nat → Int32} {s t r q : Nat} (h : pl_co s t) (e : pl_A val t r q = true) : pl_A val s r q = true := by
  rw [pl_Ai] at e ⊢
  exact ⟨pl_dv h.1 e.1, pl_dv h.2.1 e.2.1, pl_dv h.2.2 e.2.2⟩
theorem pl_Dm {val sec : Nat → Int32} {n s t r : Nat} (h : pl_co s t) : pl_D val sec n t r ≤ pl_D val sec n s r := by
  refine pl_cm 8 (fun c _ hc => ?_)
  rw [pl_ei] at hc ⊢
  obtain ⟨q, hq, e⟩ := hc
  rw [Bool.and_eq_true] at e
  exact ⟨q, hq, by rw [Bool.and_eq_true]; exact ⟨pl_Am h e.1, e.2⟩⟩
theorem pl_Hm {val sec : Nat → Int32} {n K L s t r : Nat} (h : pl_co s t) (e : pl_H val sec n K L t r = true) : pl_H val sec n K L s r = true := by
  unfold pl_H at e ⊢
  rw [Bool.and_eq_true, decide_eq_true_eq, decide_eq_true_eq] at e ⊢
  exact ⟨Nat.le_trans e.1 (pl_cm n (fun _ _ => pl_Am h)), Nat.le_trans e.2 (pl_Dm h)⟩
theorem pl_Gm {val sec : Nat → Int32} {n K L M s t : Nat} (h : pl_co s t) (e : pl_G val sec n K L M t = true) : pl_G val sec n K L M s = true := by
  unfold pl_G at e ⊢
  rw [decide_eq_true_eq] at e ⊢
  refine Nat.le_trans (pl_cm n (fun r _ hr => ?_)) e
  cases hz : pl_H val sec n K L t r
  · rfl
  · rw [pl_Hm h hz] at hr
    exact absurd hr (by decide)
/-! finest: one level down is enough -/
def pl_fx (g : Nat → Bool) (s : Nat) : Bool := g s && (!(decide (1 ≤ s % 5) && g (s - 1)) && !(decide (5 ≤ s % 25) && g (s - 5)) && !(decide (25 ≤ s) && g (s - 25)))
def pl_cb (s t : Nat) : Bool := decide (pl_lv t 0 ≤ pl_lv s 0) && (decide (pl_lv t 1 ≤ pl_lv s 1) && (decide (pl_lv t 2 ≤ pl_lv s 2) && !decide (s = t)))
def pl_fy (g : Nat → Bool) (s : Nat) : Bool := g s && !pl_e (fun t => g t && pl_cb s t) 125
theorem pl_cbi {s t : Nat} : pl_cb s t = true ↔ pl_co s t ∧ s ≠ t := by
  unfold pl_cb pl_co
  rw [Bool.and_eq_true, Bool.and_eq_true, Bool.and_eq_true, decide_eq_true_eq, decide_eq_true_eq, decide_eq_true_eq, Bool.not_eq_true', decide_eq_false_iff_not]
  exact ⟨fun ⟨a, b, c, d⟩ => ⟨⟨a, b, c⟩, d⟩, fun ⟨⟨a, b, c⟩, d⟩ => ⟨a, b, c, d⟩⟩
theorem pl_coi {s t : Nat} : pl_co s t ↔ t % 5 ≤ s % 5 ∧ t / 5 % 5 ≤ s / 5 % 5 ∧ t / 25 ≤ s / 25 := Iff.rfl
theorem pl_d1 {s t : Nat} (hs : s < 125) (ht : t < 125) (h : pl_co s t) (hn : s ≠ t) : (1 ≤ s % 5 ∧ pl_co (s - 1) t) ∨ (5 ≤ s % 25 ∧ pl_co (s - 5) t) ∨ (25 ≤ s ∧ pl_co (s - 25) t) := by
  simp only [pl_coi] at h ⊢
  omega
theorem pl_d2 {s : Nat} (hs : s < 125) (h : 1 ≤ s % 5) : pl_co s (s - 1) ∧ s ≠ s - 1 := by
  simp only [pl_coi]
  omega
theorem pl_d3 {s : Nat} (hs : s < 125) (h : 5 ≤ s % 25) : pl_co s (s - 5) ∧ s ≠ s - 5 := by
  simp only [pl_coi]
  omega
theorem pl_d4 {s : Nat} (hs : s < 125) (h : 25 ≤ s) : pl_co s (s - 25) ∧ s ≠ s - 25 := by
  simp only [pl_coi]
  omega
theorem pl_fxy {g : Nat → Bool} (hm : ∀ s t, pl_co s t → g t = true → g s = true) {s : Nat} (hs : s < 125) : pl_fx g s = pl_fy g s := by
  unfold pl_fx pl_fy
  refine congrArg (fun z => g s && z) ?_
  cases he : pl_e (fun t => g t && pl_cb s t) 125
  · have no : ∀ t, t < 125 → pl_co s t → s ≠ t → g t = false := by
      intro t ht hc hn
      cases hg : g t
      · rfl
      · have : pl_e (fun t => g t && pl_cb s t) 125 = true := by
          rw [pl_ei]
          exact ⟨t, ht, by rw [Bool.and_eq_true]; exact ⟨hg, pl_cbi.mpr ⟨hc, hn⟩⟩⟩
        rw [he] at this
        cases this
    have a1 : (decide (1 ≤ s % 5) && g (s - 1)) = false := by
      by_cases z : 1 ≤ s % 5
      · rw [no (s - 1) (by omega) (pl_d2 hs z).1 (pl_d2 hs z).2, Bool.and_false]
      · rw [decide_eq_false z, Bool.false_and]
    have a2 : (decide (5 ≤ s % 25) && g (s - 5)) = false := by
      by_cases z : 5 ≤ s % 25
      · rw [no (s - 5) (by omega) (pl_d3 hs z).1 (pl_d3 hs z).2, Bool.and_false]
      · rw [decide_eq_false z, Bool.false_and]
    have a3 : (decide (25 ≤ s) && g (s - 25)) = false := by
      by_cases z : 25 ≤ s
      · rw [no (s - 25) (by omega) (pl_d4 hs z).1 (pl_d4 hs z).2, Bool.and_false]
      · rw [decide_eq_false z, Bool.false_and]
    rw [a1, a2, a3]
    rfl
  · rw [pl_ei] at he
    obtain ⟨t, ht, e⟩ := he
    rw [Bool.and_eq_true, pl_cbi] at e
    rcases pl_d1 hs ht e.2.1 e.2.2 with ⟨z, c⟩ | ⟨z, c⟩ | ⟨z, c⟩
    · rw [decide_eq_true z, hm _ _ c e.1]
      simp
    · rw [decide_eq_true z, hm _ _ c e.1]
      simp
    · rw [decide_eq_true z, hm _ _ c e.1]
      simp
/-! finestAt and best, as scans -/
def pl_fa (f : Nat → Bool) (i : Int32) : Nat → Nat → Int32 → Int32
  | 0 => fun _ _ => -5
  | d + 1 => fun s c => if f s then (if c = i then nI s else pl_fa f i d (s + 1) (c + 1)) else pl_fa f i d (s + 1) c
def pl_sm (s : Nat) : Nat := pl_lv s 0 + pl_lv s 1 + pl_lv s 2
def pl_bs (g : Nat → Bool) : Nat → Option Nat
  | 0 => none
  | i + 1 => match pl_bs g i with
    | none => if g i then some i else none
    | some b => if g i && decide (pl_sm i < pl_sm b) then some i else some b
def pl_ob : Option Nat → Int32
  | none => -5
  | some b => nI b
def pl_ol : Option Nat → Nat
  | none => 13
  | some b => pl_sm b
theorem pl_bsl {g : Nat → Bool} : ∀ i b, pl_bs g i = some b → b < i := by
  intro i
  induction i with
  | zero => intro b h; cases h
  | succ i ih =>
    intro b h
    unfold pl_bs at h
    cases hz : pl_bs g i with
    | none =>
      rw [hz] at h
      dsimp only at h
      split at h
      · cases h; omega
      · cases h
    | some c =>
      rw [hz] at h
      dsimp only at h
      have := ih c hz
      split at h
      · cases h; omega
      · cases h; omega
theorem pl_sml {s : Nat} (hs : s < 125) : pl_sm s < 13 := by
  show s % 5 + s / 5 % 5 + s / 25 < 13
  omega
theorem pl_bst {g : Nat → Bool} {i : Nat} (hi : i < 125) (hg : g i = true) (hl : pl_sm i < pl_ol (pl_bs g i)) : pl_bs g (i + 1) = some i := by
  unfold pl_bs
  cases hz : pl_bs g i with
  | none => dsimp only; rw [hg]; rfl
  | some c =>
    rw [hz] at hl
    dsimp only
    rw [hg, decide_eq_true (show pl_sm i < pl_sm c from hl)]
    rfl
theorem pl_bsf {g : Nat → Bool} {i : Nat} (hi : i < 125) (h : g i = false ∨ pl_ol (pl_bs g i) ≤ pl_sm i) : pl_bs g (i + 1) = pl_bs g i := by
  have hs := pl_sml hi
  rw [pl_bs]
  cases hz : pl_bs g i with
  | none =>
    rw [hz] at h
    rcases h with h | h
    · dsimp only; rw [h]; rfl
    · have : 13 ≤ pl_sm i := h
      omega
  | some c =>
    rw [hz] at h
    dsimp only
    rcases h with h | h
    · rw [h]; rfl
    · rw [decide_eq_false (show ¬ pl_sm i < pl_sm c from Nat.not_lt.mpr h), Bool.and_false]; rfl
end
section
/-! the component's private methods, each with a general post -/
theorem px_e0 {s : Nat} (hs : s < 125) : nI s - nI s / 5 * 5 = nI (s % 5) := pk_rem (d := 5) (by omega) (by omega) (by omega)
theorem px_e25 {s : Nat} (hs : s < 125) : nI s - nI s / 25 * 25 = nI (s % 25) := pk_rem (d := 25) (by omega) (by omega) (by omega)
theorem px_e1 {s : Nat} (hs : s < 125) : (nI s - nI s / 25 * 25) / 5 = nI (s / 5 % 5) := by
  rw [px_e25 hs]
  exact (pk_div (d := 5) (by omega) (by omega) (by omega)).trans (congrArg nI (by omega))
theorem px_e2 {s : Nat} (hs : s < 125) : nI s / 25 = nI (s / 25) := pk_div (d := 25) (by omega) (by omega) (by omega)
theorem px_shown {post : Int32 → Prop} {f k l m : Int32} {val sec : Nat → Int32} (s r : Nat) (hs : s < 125) (hr : r < 16) (h : post (nI (pl_sh val s r))) : wpX_shown post (f, k, l, m, val, sec) (nI s) (nI r) := by
  unfold wpX_shown
  dsimp only
  refine ⟨vp_in_nI hr (by decide), nm_r (congrArg val (nI_clamp (by omega))) ⟨by decide, nm_r (e' := nI (pl_h (val r) s 0)) ?_ ⟨by decide, by decide, nm_r (e' := nI (pl_h (val r) s 1)) ?_ ⟨by decide, nm_r (e' := nI (pl_h (val r) s 2)) ?_ ?_⟩⟩⟩⟩
  · rw [px_e0 hs, pl_a0]
    exact pl_s2 _ (by omega) _ (pl_al _ _)
  · rw [px_e1 hs, show (val r >>> ((4 : Int32) &&& 31)) &&& 15 = nI (pl_a (val r) 1) from pl_ae (val r) 1]
    exact pl_s2 _ (by omega) _ (pl_al _ _)
  · rw [px_e2 hs, show (val r >>> ((8 : Int32) &&& 31)) &&& 15 = nI (pl_a (val r) 2) from pl_ae (val r) 2]
    exact pl_s2 _ (by omega) _ (pl_al _ _)
  · rw [pl_s3 _ (pl_hl _ _ _) _ (pl_hl _ _ _) _ (pl_hl _ _ _)]
    exact h
theorem px_caL {post : Int32 → Prop} {f k l m : Int32} {val sec : Nat → Int32} (s r e : Nat) (hs : s < 125) (he : e ≤ 16) (hp : post (nI (pl_c (fun q => pl_A val s r q) e))) : ∀ d i, i + d = e → wX_countAlike_14 post (nI s) (nI e) (nI (pl_sh val s r)) f k l m val sec (d + 1) (nI (pl_c (fun q => pl_A val s r q) i)) (nI i) := by
  intro d
  induction d with
  | zero =>
    intro i hi
    obtain rfl : i = e := by omega
    exact br_t (nI_le (Nat.le_refl _) (by omega)) hp
  | succ d ih =>
    intro i hi
    have h1 := ih (i + 1) (by omega)
    refine br_f (nI_ge (by omega) (by omega)) (px_shown s i hs (by omega) ?_)
    refine pk_eq (pl_sh val s i) (pl_sh val s r) (fun h => ?_) (fun h => ?_) rfl rfl (pl_shl _ _ _) (pl_shl _ _ _)
    · have a : pl_A val s r i = true := decide_eq_true h.symm
      exact nm_r (pl_tI (p := fun q => pl_A val s r q) a) (nm_r (nI_1 i) h1)
    · have a : pl_A val s r i = false := decide_eq_false (fun z => h z.symm)
      rw [pl_f (p := fun q => pl_A val s r q) a] at h1
      exact nm_r (nI_1 i) h1
theorem px_ca {post : Int32 → Prop} {f k l m : Int32} {val sec : Nat → Int32} (s r e : Nat) (hs : s < 125) (hr : r < 16) (he : e ≤ 16) (hp : post (nI (pl_c (fun q => pl_A val s r q) e))) : wpX_countAlike post (f, k, l, m, val, sec) (nI s) (nI r) (nI e) := by
  unfold wpX_countAlike
  dsimp only
  exact px_shown s r hs hr ⟨e + 1, px_caL s r e hs he hp e 0 (by omega)⟩
theorem px_csL {post : Int32 → Prop} {k l m : Int32} {val sec : Nat → Int32} (n s r : Nat) (hs : s < 125) (hn : n ≤ 16) (hS : ∀ q, q < n → ∃ c, c < 8 ∧ sec q = nI c) (hp : post (nI (pl_D val sec n s r))) : ∀ d i seen, i + d = n → (∀ c, c < 8 → bt seen c = pl_e (fun q => pl_A val s r q && decide ((sec q).toNatClampNeg = c)) i) → wX_countSecrets_16 post (nI s) (nI (pl_sh val s r)) (nI n) k l m val sec (d + 1) seen (nI (pl_c (bt seen) 8)) (nI i) := by
  intro d
  induction d with
  | zero =>
    intro i seen hi hb
    obtain rfl : i = n := by omega
    have e : pl_c (bt seen) 8 = pl_D val sec i s r := pl_cc 8 hb
    rw [e]
    exact br_t (nI_le (Nat.le_refl _) (by omega)) hp
  | succ d ih =>
    intro i seen hi hb
    obtain ⟨c, hc, ec⟩ := hS i (by omega)
    have cc : (sec i).toNatClampNeg = c := by rw [ec, nI_clamp (by omega)]
    refine br_f (nI_ge (by omega) (by omega)) ⟨vp_in_nI (by omega) (by decide), nm_r (e' := (1 : Int32) <<< (nI c &&& 31)) (by rw [nI_clamp (by omega), ec]) ?_⟩
    have st : ∀ x, pl_e (fun q => pl_A val s r q && decide ((sec q).toNatClampNeg = x)) (i + 1) = (pl_e (fun q => pl_A val s r q && decide ((sec q).toNatClampNeg = x)) i || (pl_A val s r i && decide (c = x))) := by
      intro x
      show (_ || (pl_A val s r i && decide ((sec i).toNatClampNeg = x))) = _
      rw [cc]
    by_cases hz : bt seen c = false
    · refine br_t ((pl_b4 seen hc).mpr hz) (px_shown s i hs (by omega) ?_)
      refine pk_eq (pl_sh val s i) (pl_sh val s r) (fun h => ?_) (fun h => ?_) rfl rfl (pl_shl _ _ _) (pl_shl _ _ _)
      · have a : pl_A val s r i = true := decide_eq_true h.symm
        have e : pl_c (bt (seen ||| ((1 : Int32) <<< (nI c &&& 31)))) 8 = pl_c (bt seen) 8 + 1 := by
          refine pl_ins (c := c) hz ?_ 8 hc (fun x hx hn => ?_)
          · rw [pl_b6 seen hc hc, decide_eq_true rfl, Bool.or_true]
          · rw [pl_b6 seen hc hx, decide_eq_false hn, Bool.or_false]
        have h1 := ih (i + 1) (seen ||| ((1 : Int32) <<< (nI c &&& 31))) (by omega) (fun x hx => by
          rw [pl_b6 seen hc hx, hb x hx, st x, a, Bool.true_and]
          exact congrArg (fun z => _ || z) (decide_eq_decide.mpr ⟨Eq.symm, Eq.symm⟩))
        rw [e] at h1
        exact nm_e (nm_r (nI_1 _) (nm_r (nI_1 i) h1))
      · have a : pl_A val s r i = false := decide_eq_false (fun z => h z.symm)
        exact nm_r (nI_1 i) (ih (i + 1) seen (by omega) (fun x hx => by rw [hb x hx, st x, a, Bool.false_and, Bool.or_false]))
    · refine br_f (fun z => hz ((pl_b4 seen hc).mp z)) (nm_r (nI_1 i) (ih (i + 1) seen (by omega) (fun x hx => ?_)))
      rw [st x, ← hb x hx]
      by_cases e : c = x
      · subst e
        have : bt seen c = true := by
          cases h : bt seen c
          · exact absurd h hz
          · rfl
        rw [this]
        rfl
      · rw [decide_eq_false e, Bool.and_false, Bool.or_false]
theorem px_cs {post : Int32 → Prop} {k l m : Int32} {val sec : Nat → Int32} (n s r : Nat) (hs : s < 125) (hr : r < 16) (hn : n ≤ 16) (hS : ∀ q, q < n → ∃ c, c < 8 ∧ sec q = nI c) (hp : post (nI (pl_D val sec n s r))) : wpX_countSecrets post (nI n, k, l, m, val, sec) (nI s) (nI r) := by
  unfold wpX_countSecrets
  dsimp only
  refine px_shown s r hs hr ⟨n + 1, ?_⟩
  have h := px_csL (k := k) (l := l) (m := m) n s r hs hn hS hp n 0 0 (by omega) (fun c _ => b_0 c)
  rw [pl_c0 8 (fun i _ => b_0 i)] at h
  exact h
theorem px_loL {post : Int32 → Prop} {m : Int32} {val sec : Nat → Int32} (n K L s : Nat) (hs : s < 125) (hn : n ≤ 16) (hK : K ≤ 8) (hL : L ≤ 8) (hS : ∀ q, q < n → ∃ c, c < 8 ∧ sec q = nI c) (hp : post (nI (pl_L val sec n K L s))) : ∀ d i, i + d = n → wX_countLeftOut_4 post (nI s) (nI n) (nI K) (nI L) m val sec (d + 1) (nI (pl_c (fun r => !pl_H val sec n K L s r) i)) (nI i) := by
  intro d
  induction d with
  | zero =>
    intro i hi
    obtain rfl : i = n := by omega
    exact br_t (nI_le (Nat.le_refl _) (by omega)) hp
  | succ d ih =>
    intro i hi
    have h1 := ih (i + 1) (by omega)
    have no : pl_H val sec n K L s i = false → wX_countLeftOut_46 post (wX_countLeftOut_4 post (nI s) (nI n) (nI K) (nI L) m val sec (d + 1)) (nI s) (nI (pl_c (fun r => !pl_H val sec n K L s r) i)) (nI i) (nI n) (nI K) (nI L) m val sec := by
      intro a
      have a' : (fun r => !pl_H val sec n K L s r) i = true := by
        show (!pl_H val sec n K L s i) = true
        rw [a]
        rfl
      exact br_t rfl (nm_r (pl_tI (p := fun r => !pl_H val sec n K L s r) a') (nm_r (nI_1 i) h1))
    have c1 := pl_cle (fun q => pl_A val s i q) n
    have c2 : pl_D val sec n s i ≤ 8 := pl_cle _ 8
    refine br_f (nI_ge (by omega) (by omega)) (px_ca s i n hs (by omega) hn ?_)
    refine pk_lt (pl_c (fun q => pl_A val s i q) n) K (fun h => no ?_) (fun h => px_cs n s i hs (by omega) hn hS ?_)
    · unfold pl_H
      rw [decide_eq_false (Nat.not_le.mpr h), Bool.false_and]
    · refine pk_lt (pl_D val sec n s i) L (fun h2 => no ?_) (fun h2 => ?_)
      · unfold pl_H
        rw [decide_eq_false (Nat.not_le.mpr h2), Bool.and_false]
      · have a' : (fun r => !pl_H val sec n K L s r) i = false := by
          show (!pl_H val sec n K L s i) = false
          unfold pl_H
          rw [decide_eq_true h, decide_eq_true h2]
          rfl
        rw [pl_f a'] at h1
        exact br_f (by decide) (nm_r (nI_1 i) h1)
theorem px_lo {post : Int32 → Prop} {m : Int32} {val sec : Nat → Int32} (n K L s : Nat) (hs : s < 125) (hn : n ≤ 16) (hK : K ≤ 8) (hL : L ≤ 8) (hS : ∀ q, q < n → ∃ c, c < 8 ∧ sec q = nI c) (hp : post (nI (pl_L val sec n K L s))) : wpX_countLeftOut post (nI n, nI K, nI L, m, val, sec) (nI s) :=
  ⟨n + 1, px_loL n K L s hs hn hK hL hS hp n 0 (by omega)⟩
theorem px_go {post : Int32 → Prop} {val sec : Nat → Int32} (n K L M s : Nat) (hs : s < 125) (hn : n ≤ 16) (hK : K ≤ 8) (hL : L ≤ 8) (hM : M ≤ 16) (hS : ∀ q, q < n → ∃ c, c < 8 ∧ sec q = nI c) (hp : post (pl_b (pl_G val sec n K L M s))) : wpX_isGood post (nI n, nI K, nI L, nI M, val, sec) (nI s) := by
  unfold wpX_isGood
  dsimp only
  have c : pl_L val sec n K L s ≤ n := pl_cle _ n
  refine px_lo n K L s hs hn hK hL hS (pk_lt M (pl_L val sec n K L s) (fun h => ?_) (fun h => ?_))
  · rw [show pl_G val sec n K L M s = false from decide_eq_false (Nat.not_le.mpr h)] at hp
    exact hp
  · rw [show pl_G val sec n K L M s = true from decide_eq_true h] at hp
    exact hp
end
section
/-! the component's public methods that only read, each with a general post; hg: what isGood answers -/
def px_Gd (U : SX) (g : Nat → Bool) : Prop := ∀ (post : Int32 → Prop) (s : Nat), s < 125 → post (pl_b (g s)) → wpX_isGood post U (nI s)
theorem px_gsL {post : Int32 → Prop} {f k l m : Int32} {val sec : Nat → Int32} {g : Nat → Bool} (hg : px_Gd (f, k, l, m, val, sec) g) (hp : post (nI (pl_c g 125))) : ∀ d i, i + d = 125 → wX_goodSettings_4 post f k l m val sec (d + 1) (nI (pl_c g i)) (nI i) := by
  intro d
  induction d with
  | zero =>
    intro i hi
    obtain rfl : i = 125 := by omega
    exact br_t (nI_le (a := 125) (b := 125) (by decide) (by decide)) hp
  | succ d ih =>
    intro i hi
    have h1 := ih (i + 1) (by omega)
    refine br_f (nI_ge (b := 125) (by omega) (by decide)) (hg _ i (by omega) (pl_bz (fun a => ?_) (fun a => ?_)))
    · rw [pl_f a] at h1
      exact nm_r (nI_1 i) h1
    · exact nm_r (pl_tI a) (nm_r (nI_1 i) h1)
theorem px_gs {post : Int32 → Prop} {f k l m : Int32} {val sec : Nat → Int32} {g : Nat → Bool} (hg : px_Gd (f, k, l, m, val, sec) g) (hp : post (nI (pl_c g 125))) : wpX_goodSettings post (f, k, l, m, val, sec) :=
  ⟨126, px_gsL hg hp 125 0 (by omega)⟩
theorem px_79 {post : Int32 → Prop} {f k l m : Int32} {val sec : Nat → Int32} (a b c : Bool) (hp : post (pl_b (!a && !b && !c))) : wX_isFinest_79 post (pl_b a) (pl_b b) (pl_b c) f k l m val sec := by
  refine pl_bz (fun ea => pl_bz (fun eb => pl_bz (fun ec => ?_) (fun ec => ?_)) (fun eb => ?_)) (fun ea => ?_)
  · subst ea eb ec
    exact hp
  · subst ea eb ec
    exact hp
  · subst ea eb
    exact hp
  · subst ea
    exact hp
theorem px_56 {post : Int32 → Prop} {f k l m : Int32} {val sec : Nat → Int32} {g : Nat → Bool} (hg : px_Gd (f, k, l, m, val, sec) g) (s : Nat) (hs : s < 125) (a b : Bool) (hp : post (pl_b (!a && !b && !(decide (25 ≤ s) && g (s - 25))))) : wX_isFinest_56 post (nI s) (pl_b a) (pl_b b) f k l m val sec := by
  refine pk_lt s 25 (fun h => ?_) (fun h => ?_)
  · rw [decide_eq_false (Nat.not_le.mpr h), Bool.false_and] at hp
    exact px_79 a b false hp
  · rw [decide_eq_true h, Bool.true_and] at hp
    rw [show nI s - 25 = nI (s - 25) from pk_sub (b := 25) h]
    refine hg _ (s - 25) (by omega) (pl_bz (fun e => ?_) (fun e => ?_))
    · rw [e] at hp
      exact px_79 a b false hp
    · rw [e] at hp
      exact px_79 a b true hp
theorem px_32 {post : Int32 → Prop} {f k l m : Int32} {val sec : Nat → Int32} {g : Nat → Bool} (hg : px_Gd (f, k, l, m, val, sec) g) (s : Nat) (hs : s < 125) (a : Bool) (hp : post (pl_b (!a && !(decide (5 ≤ s % 25) && g (s - 5)) && !(decide (25 ≤ s) && g (s - 25))))) : wX_isFinest_32 post (nI s) (pl_b a) f k l m val sec := by
  refine ⟨by decide, ?_⟩
  rw [px_e25 hs]
  refine pk_lt (s % 25) 5 (fun h => ?_) (fun h => ?_)
  · rw [decide_eq_false (Nat.not_le.mpr h), Bool.false_and] at hp
    exact px_56 hg s hs a false hp
  · rw [decide_eq_true h, Bool.true_and] at hp
    rw [show nI s - 5 = nI (s - 5) from pk_sub (b := 5) (by omega)]
    refine hg _ (s - 5) (by omega) (pl_bz (fun e => ?_) (fun e => ?_))
    · rw [e] at hp
      exact px_56 hg s hs a false hp
    · rw [e] at hp
      exact px_56 hg s hs a true hp
theorem px_if {post : Int32 → Prop} {f k l m : Int32} {val sec : Nat → Int32} {g : Nat → Bool} (hg : px_Gd (f, k, l, m, val, sec) g) (s : Nat) (hs : s < 125) (hp : post (pl_b (pl_fx g s))) : wpX_isFinest post (f, k, l, m, val, sec) (nI s) := by
  unfold wpX_isFinest
  dsimp only
  unfold pl_fx at hp
  refine hg _ s hs (pl_bz (fun e => ?_) (fun e => ⟨by decide, ?_⟩))
  · rw [e] at hp
    exact hp
  · rw [e, Bool.true_and] at hp
    rw [px_e0 hs]
    refine pk_lt (s % 5) 1 (fun h => ?_) (fun h => ?_)
    · rw [decide_eq_false (Nat.not_le.mpr h), Bool.false_and] at hp
      exact px_32 hg s hs false hp
    · rw [decide_eq_true h, Bool.true_and] at hp
      rw [show nI s - 1 = nI (s - 1) from pk_sub (b := 1) (by omega)]
      refine hg _ (s - 1) (by omega) (pl_bz (fun e => ?_) (fun e => ?_))
      · rw [e] at hp
        exact px_32 hg s hs false hp
      · rw [e] at hp
        exact px_32 hg s hs true hp
def px_Fn (U : SX) (g : Nat → Bool) : Prop := ∀ (post : Int32 → Prop) (s : Nat), s < 125 → post (pl_b (g s)) → wpX_isFinest post U (nI s)
theorem px_fnL {post : Int32 → Prop} {f k l m : Int32} {val sec : Nat → Int32} {g : Nat → Bool} (hg : px_Fn (f, k, l, m, val, sec) g) (hp : post (nI (pl_c g 125))) : ∀ d i, i + d = 125 → wX_finest_4 post f k l m val sec (d + 1) (nI (pl_c g i)) (nI i) := by
  intro d
  induction d with
  | zero =>
    intro i hi
    obtain rfl : i = 125 := by omega
    exact br_t (nI_le (a := 125) (b := 125) (by decide) (by decide)) hp
  | succ d ih =>
    intro i hi
    have h1 := ih (i + 1) (by omega)
    refine br_f (nI_ge (b := 125) (by omega) (by decide)) (hg _ i (by omega) (pl_bz (fun a => ?_) (fun a => ?_)))
    · rw [pl_f a] at h1
      exact nm_r (nI_1 i) h1
    · exact nm_r (pl_tI a) (nm_r (nI_1 i) h1)
theorem px_fn {post : Int32 → Prop} {f k l m : Int32} {val sec : Nat → Int32} {g : Nat → Bool} (hg : px_Fn (f, k, l, m, val, sec) g) (hp : post (nI (pl_c g 125))) : wpX_finest post (f, k, l, m, val, sec) :=
  ⟨126, px_fnL hg hp 125 0 (by omega)⟩
theorem px_faL {post : Int32 → Prop} {f k l m : Int32} {val sec : Nat → Int32} {g : Nat → Bool} (hg : px_Fn (f, k, l, m, val, sec) g) (x : Int32) : ∀ d i c, i + d = 125 → post (pl_fa g x d i c) → wX_finestAt_4 post x f k l m val sec (d + 1) c (nI i) := by
  intro d
  induction d with
  | zero =>
    intro i c hi hp
    obtain rfl : i = 125 := by omega
    exact br_t (nI_le (a := 125) (b := 125) (by decide) (by decide)) hp
  | succ d ih =>
    intro i c hi hp
    rw [pl_fa] at hp
    dsimp only at hp
    refine br_f (nI_ge (b := 125) (by omega) (by decide)) (hg _ i (by omega) (pl_bz (fun a => ?_) (fun a => ?_)))
    · rw [a] at hp
      exact nm_r (nI_1 i) (ih (i + 1) c (by omega) hp)
    · rw [if_pos a] at hp
      refine br_c (fun e => ?_) (fun e => ?_)
      · rw [if_pos e] at hp
        exact hp
      · rw [if_neg e] at hp
        exact nm_e (nm_r (nI_1 i) (ih (i + 1) (c + 1) (by omega) hp))
theorem px_fa {post : Int32 → Prop} {f k l m : Int32} {val sec : Nat → Int32} {g : Nat → Bool} (hg : px_Fn (f, k, l, m, val, sec) g) (x : Int32) (hp : post (pl_fa g x 125 0 0)) : wpX_finestAt post (f, k, l, m, val, sec) x :=
  ⟨126, px_faL hg x 125 0 0 (by omega) hp⟩
theorem px_ls {post : Int32 → Prop} (s : Nat) (hs : s < 125) (hp : post (nI (pl_sm s))) : wpX_levelSum post (nI s) := by
  refine ⟨by decide, by decide, by decide, by decide, ?_⟩
  rw [px_e0 hs, px_e1 hs, px_e2 hs, nI_add, nI_add]
  exact hp
theorem px_beL {post : Int32 → Prop} {f k l m : Int32} {val sec : Nat → Int32} {g : Nat → Bool} (hg : px_Gd (f, k, l, m, val, sec) g) (hp : post (pl_ob (pl_bs g 125))) : ∀ d i, i + d = 125 → wX_best_8 post f k l m val sec (d + 1) (pl_ob (pl_bs g i)) (nI (pl_ol (pl_bs g i))) (nI i) := by
  intro d
  induction d with
  | zero =>
    intro i hi
    obtain rfl : i = 125 := by omega
    exact br_t (nI_le (a := 125) (b := 125) (by decide) (by decide)) hp
  | succ d ih =>
    intro i hi
    have h1 := ih (i + 1) (by omega)
    have hi2 : i < 125 := by omega
    have hs := pl_sml hi2
    have hl : pl_ol (pl_bs g i) ≤ 13 := by
      cases hz : pl_bs g i with
      | none => exact Nat.le_refl 13
      | some b => exact Nat.le_of_lt (pl_sml (Nat.lt_trans (pl_bsl i b hz) hi2))
    refine br_f (nI_ge (b := 125) hi2 (by decide)) (px_ls i hi2 ?_)
    refine pk_le (pl_ol (pl_bs g i)) (pl_sm i) (fun h => ?_) (fun h => hg _ i hi2 (pl_bz (fun a => ?_) (fun a => ?_)))
    · rw [pl_bsf hi2 (Or.inr h)] at h1
      exact nm_r (nI_1 i) h1
    · rw [pl_bsf hi2 (Or.inl a)] at h1
      exact nm_r (nI_1 i) h1
    · rw [pl_bst hi2 a h] at h1
      exact nm_r (nI_1 i) h1
theorem px_be {post : Int32 → Prop} {f k l m : Int32} {val sec : Nat → Int32} {g : Nat → Bool} (hg : px_Gd (f, k, l, m, val, sec) g) (hp : post (pl_ob (pl_bs g 125))) : wpX_best post (f, k, l, m, val, sec) :=
  ⟨126, px_beL hg hp 125 0 (by omega)⟩
/-- r is the first of its group -/
def pl_g1 (val : Nat → Int32) (s r : Nat) : Bool := decide (pl_c (fun q => pl_A val s r q) r = 0)
theorem px_grL {post : Int32 → Prop} {k l m : Int32} {val sec : Nat → Int32} (n s : Nat) (hs : s < 125) (hn : n ≤ 16) (hp : post (nI (pl_c (pl_g1 val s) n))) : ∀ d i, i + d = n → wX_groups_14 post (nI s) (nI n) k l m val sec (d + 1) (nI (pl_c (pl_g1 val s) i)) (nI i) := by
  intro d
  induction d with
  | zero =>
    intro i hi
    obtain rfl : i = n := by omega
    exact br_t (nI_le (Nat.le_refl _) (by omega)) hp
  | succ d ih =>
    intro i hi
    have h1 := ih (i + 1) (by omega)
    have c := pl_cle (fun q => pl_A val s i q) i
    refine br_f (nI_ge (by omega) (by omega)) (px_ca s i i hs (by omega) (by omega) ?_)
    refine pk_eq (pl_c (fun q => pl_A val s i q) i) 0 (fun h => ?_) (fun h => ?_)
    · exact nm_r (pl_tI (p := pl_g1 val s) (decide_eq_true h)) (nm_r (nI_1 i) h1)
    · rw [pl_f (p := pl_g1 val s) (decide_eq_false h)] at h1
      exact nm_r (nI_1 i) h1
end
section
/-! the reference's private methods, each with a general post -/
theorem py_e1 {s : Nat} (hs : s < 125) : (nI s / 5) - (nI s / 5) / 5 * 5 = nI (s / 5 % 5) := by
  rw [show nI s / 5 = nI (s / 5) from pk_div (d := 5) (by omega) (by omega) (by omega)]
  exact pk_rem (d := 5) (by omega) (by omega) (by omega)
theorem py_lv {post : Int32 → Prop} {f k l m : Int32} {att sec fine : Nat → Int32} (s a : Nat) (hs : s < 125) (ha : a < 3) (h : post (nI (pl_lv s a))) : wpY_level post (f, k, l, m, att, sec, fine) (nI s) (nI a) := by
  unfold wpY_level
  dsimp only
  refine pk_eq a 0 (fun e => ⟨by decide, ?_⟩) (fun e => pk_eq a 1 (fun e1 => ⟨by decide, by decide, ?_⟩) (fun e1 => ⟨by decide, ?_⟩))
  · subst e
    rw [px_e0 hs]
    exact h
  · subst e1
    rw [py_e1 hs]
    exact h
  · obtain rfl : a = 2 := by omega
    rw [px_e2 hs]
    exact h
theorem py_ix (r a : Nat) : nI r * 3 + nI a = nI (r * 3 + a) := by
  rw [show nI r * 3 = nI (r * 3) from pk_mul r 3, nI_add]
theorem py_alS {post : Int32 → Prop} {f k l m : Int32} {val att sec fine : Nat → Int32} (s r q a d : Nat) (hs : s < 125) (hr : r < 16) (hq : q < 16) (ha : a < 3) (er : att (r * 3 + a) = nI (pl_a (val r) a)) (eq : att (q * 3 + a) = nI (pl_a (val q) a)) (h1 : pl_h (val r) s a = pl_h (val q) s a → wY_alike_3 post (nI s) (nI r) (nI q) f k l m att sec fine d (nI (a + 1))) (h2 : ¬ pl_h (val r) s a = pl_h (val q) s a → post 0) : wY_alike_3 post (nI s) (nI r) (nI q) f k l m att sec fine (d + 1) (nI a) := by
  have p := pl_s4 _ (pl_lvl hs a)
  have b1 := pl_al (val r) a
  have b2 := pl_al (val q) a
  have c1 := pl_hl (val r) s a
  have c2 := pl_hl (val q) s a
  refine br_f (nI_ge (b := 3) ha (by decide)) (py_lv s a hs ha (nm_r (pl_s1 _ (pl_lvl hs a)) ?_))
  rw [py_ix, py_ix, nI_clamp (by omega), nI_clamp (by omega), er, eq, pk_div (by omega) p.1 p.2, pk_div (by omega) p.1 p.2]
  refine ⟨vp_in_nI (by omega) (by decide), nI_ne0 p.1 p.2, vp_in_nI (by omega) (by decide), nI_ne0 p.1 p.2, ?_⟩
  exact pk_eq (pl_h (val r) s a) (pl_h (val q) s a) (fun e => nm_r (nI_1 a) (h1 e)) h2 rfl rfl (by omega) (by omega)
def py_At (n : Nat) (val att : Nat → Int32) : Prop := ∀ q a, q < n → a < 3 → att (q * 3 + a) = nI (pl_a (val q) a)
theorem py_al {post : Int32 → Prop} {f k l m : Int32} {val att sec fine : Nat → Int32} (n s r q : Nat) (hs : s < 125) (hn : n ≤ 16) (hr : r < n) (hq : q < n) (hA : py_At n val att) (hp : post (pl_b (pl_A val s r q))) : wpY_alike post (f, k, l, m, att, sec, fine) (nI s) (nI r) (nI q) := by
  have no : (¬ (pl_h (val r) s 0 = pl_h (val q) s 0 ∧ pl_h (val r) s 1 = pl_h (val q) s 1 ∧ pl_h (val r) s 2 = pl_h (val q) s 2)) → post 0 := by
    intro h
    cases e : pl_A val s r q
    · rw [e] at hp
      exact hp
    · exact absurd (pl_Ai.mp e) h
  refine ⟨4, py_alS s r q 0 3 hs (by omega) (by omega) (by decide) (hA r 0 hr (by decide)) (hA q 0 hq (by decide)) (fun e0 => ?_) (fun e => no (fun z => e z.1))⟩
  refine py_alS s r q 1 2 hs (by omega) (by omega) (by decide) (hA r 1 hr (by decide)) (hA q 1 hq (by decide)) (fun e1 => ?_) (fun e => no (fun z => e z.2.1))
  refine py_alS s r q 2 1 hs (by omega) (by omega) (by decide) (hA r 2 hr (by decide)) (hA q 2 hq (by decide)) (fun e2 => ?_) (fun e => no (fun z => e z.2.2))
  refine br_t (nI_le (a := 3) (b := 3) (by decide) (by decide)) ?_
  rw [pl_Ai.mpr ⟨e0, e1, e2⟩] at hp
  exact hp
theorem py_h57 {post : Int32 → Prop} {f m : Int32} {att sec fine : Nat → Int32} (K L c : Nat) (seen : Int32) (hK : K ≤ 8) (hL : L ≤ 8) (hc : c ≤ 16) (hp : post (pl_b (decide (K ≤ c) && decide (L ≤ pl_c (bt seen) 8)))) : ∀ d i, i + d = 8 → wY_hidden_57 post (nI c) seen f (nI K) (nI L) m att sec fine (d + 1) (nI (pl_c (bt seen) i)) (nI i) := by
  intro d
  induction d with
  | zero =>
    intro i hi
    obtain rfl : i = 8 := by omega
    have c8 := pl_cle (bt seen) 8
    refine br_t (nI_le (a := 8) (b := 8) (by decide) (by decide)) (pk_lt c K (fun h => ?_) (fun h => pk_lt (pl_c (bt seen) 8) L (fun h2 => ?_) (fun h2 => ?_)))
    · rw [decide_eq_false (Nat.not_le.mpr h), Bool.false_and] at hp
      exact hp
    · rw [decide_eq_false (Nat.not_le.mpr h2), Bool.and_false] at hp
      exact hp
    · rw [decide_eq_true h, decide_eq_true h2] at hp
      exact hp
  | succ d ih =>
    intro i hi
    have h1 := ih (i + 1) (by omega)
    refine br_f (nI_ge (b := 8) (by omega) (by decide)) (nm_r (e' := nI (pl_c (bt seen) (i + 1))) ?_ (nm_r (nI_1 i) h1))
    rw [pl_b5 seen (show i < 8 by omega), nI_add]
    rfl
theorem py_h8 {post : Int32 → Prop} {m : Int32} {val att sec fine : Nat → Int32} (n K L s r : Nat) (hs : s < 125) (hn : n ≤ 16) (hK : K ≤ 8) (hL : L ≤ 8) (hr : r < n) (hA : py_At n val att) (hS : ∀ q, q < n → ∃ c, c < 8 ∧ sec q = nI c) (hp : post (pl_b (pl_H val sec n K L s r))) : ∀ d i seen, i + d = n → (∀ c, c < 8 → bt seen c = pl_e (fun q => pl_A val s r q && decide ((sec q).toNatClampNeg = c)) i) → wY_hidden_8 post (nI s) (nI r) (nI n) (nI K) (nI L) m att sec fine (d + 1) (nI (pl_c (fun q => pl_A val s r q) i)) seen (nI i) := by
  intro d
  induction d with
  | zero =>
    intro i seen hi hb
    obtain rfl : i = n := by omega
    have e : pl_c (bt seen) 8 = pl_D val sec i s r := pl_cc 8 hb
    have c1 := pl_cle (fun q => pl_A val s r q) i
    refine br_t (nI_le (Nat.le_refl _) (by omega)) ⟨9, py_h57 K L _ seen hK hL (by omega) ?_ 8 0 (by omega)⟩
    rw [e]
    exact hp
  | succ d ih =>
    intro i seen hi hb
    obtain ⟨c, hc, ec⟩ := hS i (by omega)
    have cc : (sec i).toNatClampNeg = c := by rw [ec, nI_clamp (by omega)]
    have st : ∀ x, pl_e (fun q => pl_A val s r q && decide ((sec q).toNatClampNeg = x)) (i + 1) = (pl_e (fun q => pl_A val s r q && decide ((sec q).toNatClampNeg = x)) i || (pl_A val s r i && decide (c = x))) := by
      intro x
      show (_ || (pl_A val s r i && decide ((sec i).toNatClampNeg = x))) = _
      rw [cc]
    refine br_f (nI_ge (by omega) (by omega)) (py_al n s r i hs hn hr (by omega) hA (pl_bz (fun a => ?_) (fun a => ?_)))
    · have h1 := ih (i + 1) seen (by omega) (fun x hx => by rw [hb x hx, st x, a, Bool.false_and, Bool.or_false])
      rw [pl_f (p := fun q => pl_A val s r q) a] at h1
      exact nm_r (nI_1 i) h1
    · refine nm_r (pl_tI (p := fun q => pl_A val s r q) a) ⟨vp_in_nI (by omega) (by decide), nm_r (e' := seen ||| ((1 : Int32) <<< (nI c &&& 31))) (by rw [nI_clamp (by omega), ec]) (nm_r (nI_1 i) (ih (i + 1) _ (by omega) (fun x hx => ?_)))⟩
      rw [pl_b6 seen hc hx, hb x hx, st x, a, Bool.true_and]
      exact congrArg (fun z => _ || z) (decide_eq_decide.mpr ⟨Eq.symm, Eq.symm⟩)
theorem py_hi {post : Int32 → Prop} {m : Int32} {val att sec fine : Nat → Int32} (n K L s r : Nat) (hs : s < 125) (hn : n ≤ 16) (hK : K ≤ 8) (hL : L ≤ 8) (hr : r < n) (hA : py_At n val att) (hS : ∀ q, q < n → ∃ c, c < 8 ∧ sec q = nI c) (hp : post (pl_b (pl_H val sec n K L s r))) : wpY_hidden post (nI n, nI K, nI L, m, att, sec, fine) (nI s) (nI r) :=
  ⟨n + 1, py_h8 n K L s r hs hn hK hL hr hA hS hp n 0 0 (by omega) (fun c _ => b_0 c)⟩
theorem py_is {post : Int32 → Prop} {f k l m : Int32} {att sec fine : Nat → Int32} (s : Nat) (hs : s < 125) (hp : post 1) : wpY_isSetting post (f, k, l, m, att, sec, fine) (nI s) :=
  br_f (nI_pos (by omega)) (br_f (nI_ge (b := 125) hs (by decide)) hp)
theorem py_loL {post : Int32 → Prop} {m : Int32} {val att sec fine : Nat → Int32} (n K L s : Nat) (hs : s < 125) (hn : n ≤ 16) (hK : K ≤ 8) (hL : L ≤ 8) (hA : py_At n val att) (hS : ∀ q, q < n → ∃ c, c < 8 ∧ sec q = nI c) (hp : post (nI (pl_L val sec n K L s))) : ∀ d i, i + d = n → wY_leftOut_15 post (nI s) (nI n) (nI K) (nI L) m att sec fine (d + 1) (nI (pl_c (fun r => !pl_H val sec n K L s r) i)) (nI i) := by
  intro d
  induction d with
  | zero =>
    intro i hi
    obtain rfl : i = n := by omega
    exact br_t (nI_le (Nat.le_refl _) (by omega)) hp
  | succ d ih =>
    intro i hi
    have h1 := ih (i + 1) (by omega)
    refine br_f (nI_ge (by omega) (by omega)) (py_hi n K L s i hs hn hK hL (by omega) hA hS (pl_bz (fun a => ?_) (fun a => ?_)))
    · have a' : (fun r => !pl_H val sec n K L s r) i = true := by
        show (!pl_H val sec n K L s i) = true
        rw [a]
        rfl
      exact nm_r (pl_tI (p := fun r => !pl_H val sec n K L s r) a') (nm_r (nI_1 i) h1)
    · have a' : (fun r => !pl_H val sec n K L s r) i = false := by
        show (!pl_H val sec n K L s i) = false
        rw [a]
        rfl
      rw [pl_f a'] at h1
      exact nm_r (nI_1 i) h1
theorem py_lo {post : Int32 → Prop} {m : Int32} {val att sec fine : Nat → Int32} (n K L s : Nat) (hs : s < 125) (hn : n ≤ 16) (hK : K ≤ 8) (hL : L ≤ 8) (hA : py_At n val att) (hS : ∀ q, q < n → ∃ c, c < 8 ∧ sec q = nI c) (hp : post (nI (pl_L val sec n K L s))) : wpY_leftOut post (nI n, nI K, nI L, m, att, sec, fine) (nI s) := by
  unfold wpY_leftOut
  dsimp only
  exact py_is s hs (br_f (by decide) ⟨n + 1, py_loL n K L s hs hn hK hL hA hS hp n 0 (by omega)⟩)
theorem py_go {post : Int32 → Prop} {val att sec fine : Nat → Int32} (n K L M s : Nat) (hs : s < 125) (hn : n ≤ 16) (hK : K ≤ 8) (hL : L ≤ 8) (hM : M ≤ 16) (hA : py_At n val att) (hS : ∀ q, q < n → ∃ c, c < 8 ∧ sec q = nI c) (hp : post (pl_b (pl_G val sec n K L M s))) : wpY_good post (nI n, nI K, nI L, nI M, att, sec, fine) (nI s) := by
  unfold wpY_good
  dsimp only
  have c : pl_L val sec n K L s ≤ n := pl_cle _ n
  refine py_is s hs (br_f (by decide) (py_lo n K L s hs hn hK hL hA hS (pk_lt M (pl_L val sec n K L s) (fun h => ?_) (fun h => ?_))))
  · rw [show pl_G val sec n K L M s = false from decide_eq_false (Nat.not_le.mpr h)] at hp
    exact hp
  · rw [show pl_G val sec n K L M s = true from decide_eq_true h] at hp
    exact hp
theorem py_juL {post : SY → Prop} {val att sec : Nat → Int32} (n K L M : Nat) (hn : n ≤ 16) (hK : K ≤ 8) (hL : L ≤ 8) (hM : M ≤ 16) (hA : py_At n val att) (hS : ∀ q, q < n → ∃ c, c < 8 ∧ sec q = nI c) (hp : ∀ fine, (∀ j, j < 125 → fine j = pl_b (pl_G val sec n K L M j)) → post (nI n, nI K, nI L, nI M, att, sec, fine)) : ∀ d i fine, i + d = 125 → (∀ j, j < i → fine j = pl_b (pl_G val sec n K L M j)) → wY_judge_2 post (nI n) (nI K) (nI L) (nI M) (d + 1) (nI i) att sec fine := by
  intro d
  induction d with
  | zero =>
    intro i fine hi hf
    obtain rfl : i = 125 := by omega
    exact br_t (nI_le (a := 125) (b := 125) (by decide) (by decide)) (hp fine hf)
  | succ d ih =>
    intro i fine hi hf
    refine br_f (nI_ge (b := 125) (by omega) (by decide)) (py_go n K L M i (by omega) hn hK hL hM hA hS ?_)
    refine ⟨vp_in_nI (by omega) (by decide), nm_r (e' := upd fine i (pl_b (pl_G val sec n K L M i))) (by rw [nI_clamp (by omega), pl_bn]) (nm_r (nI_1 i) (ih (i + 1) _ (by omega) (fun j hj => ?_)))⟩
    by_cases e : j = i
    · subst e
      exact pk_us
    · rw [pk_un e]
      exact hf j (by omega)
theorem py_ju {post : SY → Prop} {val att sec fine : Nat → Int32} (n K L M : Nat) (hn : n ≤ 16) (hK : K ≤ 8) (hL : L ≤ 8) (hM : M ≤ 16) (hA : py_At n val att) (hS : ∀ q, q < n → ∃ c, c < 8 ∧ sec q = nI c) (hp : ∀ fine, (∀ j, j < 125 → fine j = pl_b (pl_G val sec n K L M j)) → post (nI n, nI K, nI L, nI M, att, sec, fine)) : wpY_judge post (nI n, nI K, nI L, nI M, att, sec, fine) :=
  ⟨126, py_juL n K L M hn hK hL hM hA hS hp 125 0 fine (by omega) (fun j hj => absurd hj (by omega))⟩
end
section
/-! the reference's loops over the settings that it has judged: hf says what fine holds -/
def py_Fi (g : Nat → Bool) (fine : Nat → Int32) : Prop := ∀ j, j < 125 → fine j = pl_b (g j)
theorem py_gsL {post : Int32 → SY → Prop} {f k l m : Int32} {att sec fine : Nat → Int32} {g : Nat → Bool} (hf : py_Fi g fine) (hp : post (nI (pl_c g 125)) (f, k, l, m, att, sec, fine)) : ∀ d i, i + d = 125 → wY_goodSettings_8 post f k l m att sec fine (d + 1) (nI (pl_c g i)) (nI i) := by
  intro d
  induction d with
  | zero =>
    intro i hi
    obtain rfl : i = 125 := by omega
    exact br_t (nI_le (a := 125) (b := 125) (by decide) (by decide)) hp
  | succ d ih =>
    intro i hi
    have h1 := ih (i + 1) (by omega)
    refine br_f (nI_ge (b := 125) (by omega) (by decide)) ⟨vp_in_nI (by omega) (by decide), ?_⟩
    rw [nI_clamp (by omega), hf i (by omega)]
    refine pl_bz (fun a => ?_) (fun a => ?_)
    · rw [pl_f a] at h1
      exact nm_r (nI_1 i) h1
    · exact nm_r (pl_tI a) (nm_r (nI_1 i) h1)
theorem py_coS {post : Int32 → Prop} {f k l m : Int32} {att sec fine : Nat → Int32} (s t a d : Nat) (hs : s < 125) (ht : t < 125) (ha : a < 3) (h1 : pl_lv t a ≤ pl_lv s a → wY_coarser_2 post (nI s) (nI t) f k l m att sec fine d (nI (a + 1))) (h2 : pl_lv s a < pl_lv t a → post 0) : wY_coarser_2 post (nI s) (nI t) f k l m att sec fine (d + 1) (nI a) := by
  have c1 := pl_lvl hs a
  have c2 := pl_lvl ht a
  refine br_f (nI_ge (b := 3) ha (by decide)) (py_lv s a hs ha (py_lv t a ht ha ?_))
  exact pk_le (pl_lv t a) (pl_lv s a) (fun e => nm_r (nI_1 a) (h1 e)) h2
theorem py_co {post : Int32 → Prop} {f k l m : Int32} {att sec fine : Nat → Int32} (s t : Nat) (hs : s < 125) (ht : t < 125) (hp : post (pl_b (pl_cb s t))) : wpY_coarser post (f, k, l, m, att, sec, fine) (nI s) (nI t) := by
  unfold pl_cb at hp
  refine ⟨4, py_coS s t 0 3 hs ht (by decide) (fun e0 => ?_) (fun e => ?_)⟩
  rotate_left
  · rw [decide_eq_false (Nat.not_le.mpr e), Bool.false_and] at hp
    exact hp
  rw [decide_eq_true e0, Bool.true_and] at hp
  refine py_coS s t 1 2 hs ht (by decide) (fun e1 => ?_) (fun e => ?_)
  rotate_left
  · rw [decide_eq_false (Nat.not_le.mpr e), Bool.false_and] at hp
    exact hp
  rw [decide_eq_true e1, Bool.true_and] at hp
  refine py_coS s t 2 1 hs ht (by decide) (fun e2 => ?_) (fun e => ?_)
  rotate_left
  · rw [decide_eq_false (Nat.not_le.mpr e), Bool.false_and] at hp
    exact hp
  rw [decide_eq_true e2, Bool.true_and] at hp
  refine br_t (nI_le (a := 3) (b := 3) (by decide) (by decide)) (pk_eq s t (fun e => ?_) (fun e => ?_))
  · rw [decide_eq_true e] at hp
    exact hp
  · rw [decide_eq_false e] at hp
    exact hp
theorem py_ifL {post : Int32 → Prop} {f k l m : Int32} {att sec fine : Nat → Int32} {g : Nat → Bool} (hf : py_Fi g fine) (s : Nat) (hs : s < 125) (hp : post (pl_b (!pl_e (fun t => g t && pl_cb s t) 125))) : ∀ d i, i + d = 125 → (∀ t, t < i → (g t && pl_cb s t) = false) → wY_isFinest_13 post (nI s) f k l m att sec fine (d + 1) (nI i) := by
  intro d
  induction d with
  | zero =>
    intro i hi hn
    obtain rfl : i = 125 := by omega
    have e : pl_e (fun t => g t && pl_cb s t) 125 = false := by
      cases h : pl_e (fun t => g t && pl_cb s t) 125
      · rfl
      · rw [pl_ei] at h
        obtain ⟨t, ht, e⟩ := h
        rw [hn t ht] at e
        exact absurd e (by decide)
    rw [e] at hp
    exact br_t (nI_le (a := 125) (b := 125) (by decide) (by decide)) hp
  | succ d ih =>
    intro i hi hn
    have nx : (g i && pl_cb s i) = false → wY_isFinest_13 post (nI s) f k l m att sec fine (d + 1) (nI (i + 1)) := by
      intro h
      refine ih (i + 1) (by omega) (fun t ht => ?_)
      by_cases e : t = i
      · rw [e]
        exact h
      · exact hn t (by omega)
    refine br_f (nI_ge (b := 125) (by omega) (by decide)) ⟨vp_in_nI (by omega) (by decide), ?_⟩
    rw [nI_clamp (by omega), hf i (by omega)]
    refine pl_bz (fun a => ?_) (fun a => py_co s i hs (by omega) (pl_bz (fun b => ?_) (fun b => ?_)))
    · exact nm_r (nI_1 i) (nx (by rw [a, Bool.false_and]))
    · exact nm_r (nI_1 i) (nx (by rw [b, Bool.and_false]))
    · have e : pl_e (fun t => g t && pl_cb s t) 125 = true := by
        rw [pl_ei]
        exact ⟨i, by omega, by rw [a, b]; rfl⟩
      rw [e] at hp
      exact hp
theorem py_if {post : Int32 → Prop} {f k l m : Int32} {att sec fine : Nat → Int32} {g : Nat → Bool} (hf : py_Fi g fine) (s : Nat) (hs : s < 125) (hp : post (pl_b (pl_fy g s))) : wpY_isFinest post (f, k, l, m, att, sec, fine) (nI s) := by
  unfold wpY_isFinest
  dsimp only
  unfold pl_fy at hp
  refine ⟨vp_in_nI hs (by decide), ?_⟩
  rw [nI_clamp (by omega), hf s hs]
  refine pl_bz (fun a => ?_) (fun a => ?_)
  · rw [a, Bool.false_and] at hp
    exact hp
  · rw [a, Bool.true_and] at hp
    exact ⟨126, py_ifL hf s hs hp 125 0 (by omega) (fun t ht => absurd ht (by omega))⟩
theorem py_fnL {post : Int32 → SY → Prop} {f k l m : Int32} {att sec fine : Nat → Int32} {g : Nat → Bool} (hf : py_Fi g fine) (hp : post (nI (pl_c (pl_fy g) 125)) (f, k, l, m, att, sec, fine)) : ∀ d i, i + d = 125 → wY_finest_8 post f k l m att sec fine (d + 1) (nI (pl_c (pl_fy g) i)) (nI i) := by
  intro d
  induction d with
  | zero =>
    intro i hi
    obtain rfl : i = 125 := by omega
    exact br_t (nI_le (a := 125) (b := 125) (by decide) (by decide)) hp
  | succ d ih =>
    intro i hi
    have h1 := ih (i + 1) (by omega)
    refine br_f (nI_ge (b := 125) (by omega) (by decide)) (py_if hf i (by omega) (pl_bz (fun a => ?_) (fun a => ?_)))
    · rw [pl_f a] at h1
      exact nm_r (nI_1 i) h1
    · exact nm_r (pl_tI a) (nm_r (nI_1 i) h1)
theorem py_faL {post : Int32 → SY → Prop} {f k l m : Int32} {att sec fine : Nat → Int32} {g : Nat → Bool} (hf : py_Fi g fine) (x : Int32) : ∀ d i c, i + d = 125 → post (pl_fa (pl_fy g) x d i c) (f, k, l, m, att, sec, fine) → wY_finestAt_8 post x f k l m att sec fine (d + 1) c (nI i) := by
  intro d
  induction d with
  | zero =>
    intro i c hi hp
    obtain rfl : i = 125 := by omega
    exact br_t (nI_le (a := 125) (b := 125) (by decide) (by decide)) hp
  | succ d ih =>
    intro i c hi hp
    rw [pl_fa] at hp
    dsimp only at hp
    refine br_f (nI_ge (b := 125) (by omega) (by decide)) (py_if hf i (by omega) (pl_bz (fun a => ?_) (fun a => ?_)))
    · rw [a] at hp
      exact nm_r (nI_1 i) (ih (i + 1) c (by omega) hp)
    · rw [if_pos a] at hp
      refine br_c (fun e => ?_) (fun e => ?_)
      · rw [if_pos e] at hp
        exact hp
      · rw [if_neg e] at hp
        exact nm_e (nm_r (nI_1 i) (ih (i + 1) (c + 1) (by omega) hp))
theorem py_sm {post : Int32 → Prop} {f k l m : Int32} {att sec fine : Nat → Int32} (s : Nat) (hs : s < 125) (hp : post (nI (pl_sm s))) : wpY_sum post (f, k, l, m, att, sec, fine) (nI s) := by
  unfold wpY_sum
  dsimp only
  refine py_lv s 0 hs (by decide) (py_lv s 1 hs (by decide) (py_lv s 2 hs (by decide) ?_))
  rw [nI_add, nI_add]
  exact hp
theorem py_beL {post : Int32 → SY → Prop} {f k l m : Int32} {att sec fine : Nat → Int32} {g : Nat → Bool} (hf : py_Fi g fine) (hp : post (pl_ob (pl_bs g 125)) (f, k, l, m, att, sec, fine)) : ∀ d i, i + d = 125 → wY_best_9 post f k l m att sec fine (d + 1) (pl_ob (pl_bs g i)) (nI i) := by
  intro d
  induction d with
  | zero =>
    intro i hi
    obtain rfl : i = 125 := by omega
    exact br_t (nI_le (a := 125) (b := 125) (by decide) (by decide)) hp
  | succ d ih =>
    intro i hi
    have h1 := ih (i + 1) (by omega)
    have hi2 : i < 125 := by omega
    have hs := pl_sml hi2
    refine br_f (nI_ge (b := 125) hi2 (by decide)) ⟨vp_in_nI hi2 (by decide), ?_⟩
    rw [nI_clamp (by omega), hf i hi2]
    refine pl_bz (fun a => ?_) (fun a => ?_)
    · rw [pl_bsf hi2 (Or.inl a)] at h1
      exact nm_r (nI_1 i) h1
    · cases hz : pl_bs g i with
      | none =>
        rw [pl_bst hi2 a (by rw [hz]; exact hs)] at h1
        exact br_t (by decide) (nm_r (nI_1 i) h1)
      | some b =>
        have hb := pl_bsl i b hz
        have hb2 := pl_sml (show b < 125 by omega)
        refine br_f (nI_pos (show b < 2 ^ 31 by omega)) (py_sm i hi2 (py_sm b (by omega) ?_))
        refine pk_le (pl_sm b) (pl_sm i) (fun h => ?_) (fun h => ?_)
        · rw [pl_bsf hi2 (Or.inr (by rw [hz]; exact h)), hz] at h1
          exact nm_r (nI_1 i) h1
        · rw [pl_bst hi2 a (by rw [hz]; exact h)] at h1
          exact nm_r (nI_1 i) h1
theorem py_grI {post : Int32 → Prop} {f k l m : Int32} {val att sec fine : Nat → Int32} {J : Int32 → Int32 → Prop} (n s r : Nat) (hs : s < 125) (hn : n ≤ 16) (hr : r < n) (hA : py_At n val att) (hJ : J (nI (pl_c (pl_g1 val s) (r + 1))) (nI (r + 1))) : ∀ d i, i + d = r → (∀ q, q < i → pl_A val s r q = false) → wY_groups_26 post J (nI s) (nI (pl_c (pl_g1 val s) r)) (nI r) f k l m att sec fine (d + 1) (nI i) := by
  intro d
  induction d with
  | zero =>
    intro i hi hq
    obtain rfl : i = r := by omega
    have a : pl_g1 val s i = true := decide_eq_true (pl_c0 i hq)
    exact br_t (nI_le (Nat.le_refl _) (by omega)) (br_t rfl (nm_r (pl_tI a) (nm_r (nI_1 i) hJ)))
  | succ d ih =>
    intro i hi hq
    refine br_f (nI_ge (by omega) (by omega)) (py_al n s i r hs hn (by omega) hr hA ?_)
    rw [pl_As]
    refine pl_bz (fun a => ?_) (fun a => ?_)
    · refine nm_r (nI_1 i) (ih (i + 1) (by omega) (fun q hq2 => ?_))
      by_cases e : q = i
      · rw [e]
        exact a
      · exact hq q (by omega)
    · have c := pl_c1 (p := fun q => pl_A val s r q) a r (by omega)
      have b : pl_g1 val s r = false := decide_eq_false (by omega)
      rw [pl_f b] at hJ
      refine br_f (fun z => ?_) (nm_r (nI_1 r) hJ)
      rw [nI_eq (by omega) (by omega)] at z
      omega
theorem py_grL {post : Int32 → Prop} {k l m : Int32} {val att sec fine : Nat → Int32} (n s : Nat) (hs : s < 125) (hn : n ≤ 16) (hA : py_At n val att) (hp : post (nI (pl_c (pl_g1 val s) n))) : ∀ d i, i + d = n → wY_groups_15 post (nI s) (nI n) k l m att sec fine (d + 1) (nI (pl_c (pl_g1 val s) i)) (nI i) := by
  intro d
  induction d with
  | zero =>
    intro i hi
    obtain rfl : i = n := by omega
    exact br_t (nI_le (Nat.le_refl _) (by omega)) hp
  | succ d ih =>
    intro i hi
    exact br_f (nI_ge (by omega) (by omega)) ⟨i + 1, py_grI n s i hs hn (by omega) hA (ih (i + 1) (by omega)) i 0 (by omega) (fun q hq => absurd hq (by omega))⟩
theorem py_laL {post : Int32 → Prop} {k l m : Int32} {val att sec fine : Nat → Int32} (n s r : Nat) (hs : s < 125) (hn : n ≤ 16) (hr : r < n) (hA : py_At n val att) (hp : post (nI (pl_c (fun q => pl_A val s r q) n))) : ∀ d i, i + d = n → wY_lookAlike_31 post (nI s) (nI r) (nI n) k l m att sec fine (d + 1) (nI (pl_c (fun q => pl_A val s r q) i)) (nI i) := by
  intro d
  induction d with
  | zero =>
    intro i hi
    obtain rfl : i = n := by omega
    exact br_t (nI_le (Nat.le_refl _) (by omega)) hp
  | succ d ih =>
    intro i hi
    have h1 := ih (i + 1) (by omega)
    refine br_f (nI_ge (by omega) (by omega)) (py_al n s r i hs hn hr (by omega) hA (pl_bz (fun a => ?_) (fun a => ?_)))
    · rw [pl_f (p := fun q => pl_A val s r q) a] at h1
      exact nm_r (nI_1 i) h1
    · exact nm_r (pl_tI (p := fun q => pl_A val s r q) a) (nm_r (nI_1 i) h1)
theorem py_rwS {post : Int32 → SY → Prop} {k l m : Int32} {att sec fine : Nat → Int32} (x y : Int32) (n a d : Nat) (hn : n < 16) (ha : a < 3) (h : wY_row_26 post x y (nI n) k l m d (nI (a + 1)) (upd att (n * 3 + a) (nI (pl_a x a))) sec fine) : wY_row_26 post x y (nI n) k l m (d + 1) (nI a) att sec fine := by
  refine br_f (nI_ge (b := 3) ha (by decide)) ?_
  rw [py_ix, show 4 * nI a = nI (4 * a) from pk_mul 4 a, pl_ae, nI_clamp (by omega)]
  exact ⟨vp_in_nI (by omega) (by decide), nm_e (nm_r (nI_1 a) h)⟩
end
section
/-- the same counts, demands and secrets on both sides; the reference keeps the three attributes of each row, the component the number that holds them -/
def i_Rel (k : Nat) (u : SX) (v : SY) : Prop := ∃ (n K L M : Nat) (val sec att fine : Nat → Int32), u = (nI n, nI K, nI L, nI M, val, sec) ∧ v = (nI n, nI K, nI L, nI M, att, sec, fine) ∧ n ≤ 16 ∧ K ≤ 8 ∧ L ≤ 8 ∧ M ≤ 16 ∧ (∀ q, q < n → ∃ c, c < 8 ∧ sec q = nI c) ∧ py_At n val att
theorem i_up {k : Nat} {u : SX} {v : SY} (h : i_Rel k u v) : i_Rel (k + 4) u v := h
theorem i_vc0 : wpX_init (fun u => wpY_init (fun v => i_Rel 0 u v)) :=
  ⟨0, 2, 1, 0, fun _ => 0, fun _ => 0, fun _ => 0, fun _ => 0, rfl, rfl, by decide, by decide, by decide, by decide, fun q hq => absurd hq (by omega), fun q a hq _ => absurd hq (by omega)⟩
theorem i_vc_row {k : Nat} {u : SX} {v : SY} (I : i_Rel k u v) (hk : k + 4 ≤ 2048) (v1 : Int32) (v2 : Int32) : wpX_row (fun r u' => wpY_row (fun r' v' => r' = r ∧ i_Rel (k + 4) u' v') v v1 v2) u v1 v2 := by
  have I0 := I
  obtain ⟨n, K, L, M, val, sec, att, fine, rfl, rfl, hn, hK, hL, hM, hS, hA⟩ := I
  by_cases h0 : v2 < 0
  · exact br_t h0 (br_t h0 ⟨rfl, I0⟩)
  · obtain ⟨c, hc, rfl⟩ := nI_of h0
    refine br_f h0 (pk_le c 7 (fun h7 => ?_) (fun h7 => ?_))
    · refine pk_lt n 16 (fun h16 => ?_) (fun h16 => ?_)
      · refine ⟨vp_in_nI h16 (by decide), nm_r (congrArg (fun z => upd val z v1) (nI_clamp (by omega))) ⟨vp_in_nI h16 (by decide), nm_r (congrArg (fun z => upd sec z (nI c)) (nI_clamp (by omega))) (nm_r (nI_1 n) ?_)⟩⟩
        refine br_f h0 (pk_le c 7 (fun _ => ?_) (fun h => absurd h (by omega)))
        refine pk_eq n 16 (fun h => absurd h (by omega)) (fun _ => ⟨4, ?_⟩)
        refine py_rwS v1 (nI c) n 0 3 h16 (by decide) (py_rwS v1 (nI c) n 1 2 h16 (by decide) (py_rwS v1 (nI c) n 2 1 h16 (by decide) ?_))
        refine br_t (nI_le (a := 3) (b := 3) (by decide) (by decide)) ⟨vp_in_nI h16 (by decide), nm_r (congrArg (fun z => upd sec z (nI c)) (nI_clamp (by omega))) (nm_r (nI_1 n) ⟨rfl, ?_⟩)⟩
        refine ⟨n + 1, K, L, M, upd val n v1, upd sec n (nI c), _, fine, rfl, rfl, by omega, hK, hL, hM, fun q hq => ?_, fun q a hq ha => ?_⟩
        · by_cases e : q = n
          · subst e
            exact ⟨c, by omega, pk_us⟩
          · rw [pk_un e]
            exact hS q (by omega)
        · by_cases e : q = n
          · subst e
            rw [pk_us]
            by_cases a2 : a = 2
            · subst a2
              exact pk_us
            · rw [pk_un (by omega)]
              by_cases a1 : a = 1
              · subst a1
                exact pk_us
              · obtain rfl : a = 0 := by omega
                rw [pk_un (by omega)]
                exact pk_us
          · rw [pk_un e, pk_un (by omega), pk_un (by omega), pk_un (by omega)]
            exact hA q a (by omega) ha
      · refine br_f h0 (pk_le c 7 (fun _ => ?_) (fun h => absurd h (by omega)))
        exact pk_eq n 16 (fun h => ⟨rfl, I0⟩) (fun h => absurd hn (by omega))
    · exact br_f h0 (pk_le c 7 (fun h => absurd h (by omega)) (fun h => ⟨rfl, I0⟩))
theorem i_vc_drop {k : Nat} {u : SX} {v : SY} (I : i_Rel k u v) (hk : k + 4 ≤ 2048) : wpX_drop (fun r u' => wpY_drop (fun r' v' => r' = r ∧ i_Rel (k + 4) u' v') v) u := by
  have I0 := I
  obtain ⟨n, K, L, M, val, sec, att, fine, rfl, rfl, hn, hK, hL, hM, hS, hA⟩ := I
  refine pk_lt 0 n (fun h => ?_) (fun h => ?_)
  · have e : nI n - 1 = nI (n - 1) := pk_sub (b := 1) h
    refine nm_r e (pk_eq n 0 (fun h => absurd h (by omega)) (fun _ => nm_r e ⟨rfl, ?_⟩))
    exact ⟨n - 1, K, L, M, val, sec, att, fine, rfl, rfl, by omega, hK, hL, hM, fun q hq => hS q (by omega), fun q a hq ha => hA q a (by omega) ha⟩
  · exact pk_eq n 0 (fun _ => ⟨rfl, I0⟩) (fun h => absurd h (by omega))
theorem i_vc_demand {k : Nat} {u : SX} {v : SY} (I : i_Rel k u v) (hk : k + 4 ≤ 2048) (v1 : Int32) (v2 : Int32) (v3 : Int32) : wpX_demand (fun r u' => wpY_demand (fun r' v' => r' = r ∧ i_Rel (k + 4) u' v') v v1 v2 v3) u v1 v2 v3 := by
  have I0 := I
  obtain ⟨n, K, L, M, val, sec, att, fine, rfl, rfl, hn, hK, hL, hM, hS, hA⟩ := I
  refine br_c (fun h1 => br_t h1 ⟨rfl, I0⟩) (fun h1 => ?_)
  refine br_c (fun h2 => br_f h1 (br_t h2 ⟨rfl, I0⟩)) (fun h2 => ?_)
  refine br_c (fun h3 => br_f h1 (br_f h2 (br_t h3 ⟨rfl, I0⟩))) (fun h3 => ?_)
  refine br_c (fun h4 => br_f h1 (br_f h2 (br_f h3 (br_t h4 ⟨rfl, I0⟩)))) (fun h4 => ?_)
  refine br_c (fun h5 => br_f h1 (br_f h2 (br_f h3 (br_f h4 (br_t h5 ⟨rfl, I0⟩))))) (fun h5 => ?_)
  refine br_c (fun h6 => br_f h1 (br_f h2 (br_f h3 (br_f h4 (br_f h5 (br_t h6 ⟨rfl, ?_⟩)))))) (fun h6 => br_f h1 (br_f h2 (br_f h3 (br_f h4 (br_f h5 (br_f h6 ⟨rfl, I0⟩))))))
  have p1 : ¬ v1 < 0 := fun z => h1 (Int32.lt_trans z (by decide))
  have p2 : ¬ v2 < 0 := fun z => h3 (Int32.lt_trans z (by decide))
  obtain ⟨a, ha, rfl⟩ := nI_of2 (M := 8) (n := 8) (by decide) p1 (Int32.not_lt.mp h2)
  obtain ⟨b, hb, rfl⟩ := nI_of2 (M := 8) (n := 8) (by decide) p2 (Int32.not_lt.mp h4)
  obtain ⟨c, hc, rfl⟩ := nI_of2 (M := 16) (n := 16) (by decide) h5 h6
  exact ⟨n, a, b, c, val, sec, att, fine, rfl, rfl, hn, ha, hb, hc, hS, hA⟩
/-- both sides refuse what is no setting -/
theorem pv_set (x : Int32) : (∃ s, s < 125 ∧ x = nI s) ∨ ((∀ post : Int32 → Prop, post 0 → wpX_isSetting post x) ∧ (∀ (post : Int32 → Prop) (v : SY), post 0 → wpY_isSetting post v x)) := by
  rcases pk_ix x (n := 125) (by decide) with h | h | ⟨j, hj, e⟩
  · exact Or.inr ⟨fun post hp => br_t h hp, fun post v hp => br_t h hp⟩
  · refine Or.inr ⟨fun post hp => br_c (fun _ => hp) (fun h0 => br_t h hp), fun post v hp => br_c (fun _ => hp) (fun h0 => br_t h hp)⟩
  · exact Or.inl ⟨j, hj, e⟩
theorem pv_is {post : Int32 → Prop} (s : Nat) (hs : s < 125) (hp : post 1) : wpX_isSetting post (nI s) :=
  br_f (nI_pos (by omega)) (br_f (nI_ge (b := 125) hs (by decide)) hp)
theorem i_vc_leftOut {k : Nat} {u : SX} {v : SY} (I : i_Rel k u v) (hk : k + 4 ≤ 2048) (v1 : Int32) : wpX_leftOut (fun r => wpY_leftOut (fun r' => r' = r ∧ i_Rel (k + 4) u v) v v1) u v1 := by
  have I0 := I
  obtain ⟨n, K, L, M, val, sec, att, fine, rfl, rfl, hn, hK, hL, hM, hS, hA⟩ := I
  unfold wpX_leftOut
  dsimp only
  rcases pv_set v1 with ⟨s, hs, rfl⟩ | ⟨hX, hY⟩
  · exact pv_is s hs (br_f (by decide) (px_lo n K L s hs hn hK hL hS (py_lo n K L s hs hn hK hL hA hS ⟨rfl, I0⟩)))
  · refine hX _ (br_t rfl ?_)
    unfold wpY_leftOut
    dsimp only
    exact hY _ _ (br_t rfl ⟨rfl, I0⟩)
theorem i_vc_good {k : Nat} {u : SX} {v : SY} (I : i_Rel k u v) (hk : k + 4 ≤ 2048) (v1 : Int32) : wpX_good (fun r => wpY_good (fun r' => r' = r ∧ i_Rel (k + 4) u v) v v1) u v1 := by
  have I0 := I
  obtain ⟨n, K, L, M, val, sec, att, fine, rfl, rfl, hn, hK, hL, hM, hS, hA⟩ := I
  unfold wpX_good
  dsimp only
  rcases pv_set v1 with ⟨s, hs, rfl⟩ | ⟨hX, hY⟩
  · refine pv_is s hs (br_f (by decide) (px_go n K L M s hs hn hK hL hM hS (pl_bz (fun a => ?_) (fun a => ?_))))
    · refine py_go n K L M s hs hn hK hL hM hA hS ?_
      rw [a]
      exact ⟨rfl, I0⟩
    · refine py_go n K L M s hs hn hK hL hM hA hS ?_
      rw [a]
      exact ⟨rfl, I0⟩
  · refine hX _ (br_t rfl ?_)
    unfold wpY_good
    dsimp only
    exact hY _ _ (br_t rfl ⟨rfl, I0⟩)
theorem i_vc_goodSettings {k : Nat} {u : SX} {v : SY} (I : i_Rel k u v) (hk : k + 4 ≤ 2048) : wpX_goodSettings (fun r => wpY_goodSettings (fun r' v' => r' = r ∧ i_Rel (k + 4) u v') v) u := by
  obtain ⟨n, K, L, M, val, sec, att, fine, rfl, rfl, hn, hK, hL, hM, hS, hA⟩ := I
  refine px_gs (g := pl_G val sec n K L M) (fun post s hs hp => px_go n K L M s hs hn hK hL hM hS hp) ?_
  unfold wpY_goodSettings
  dsimp only
  refine py_ju n K L M hn hK hL hM hA hS (fun fi hf => ?_)
  exact ⟨126, py_gsL hf ⟨rfl, n, K, L, M, val, sec, att, fi, rfl, rfl, hn, hK, hL, hM, hS, hA⟩ 125 0 (by omega)⟩
theorem i_vc_finest {k : Nat} {u : SX} {v : SY} (I : i_Rel k u v) (hk : k + 4 ≤ 2048) : wpX_finest (fun r => wpY_finest (fun r' v' => r' = r ∧ i_Rel (k + 4) u v') v) u := by
  obtain ⟨n, K, L, M, val, sec, att, fine, rfl, rfl, hn, hK, hL, hM, hS, hA⟩ := I
  have hg : px_Gd (nI n, nI K, nI L, nI M, val, sec) (pl_G val sec n K L M) := fun post s hs hp => px_go n K L M s hs hn hK hL hM hS hp
  have hF : px_Fn (nI n, nI K, nI L, nI M, val, sec) (pl_fy (pl_G val sec n K L M)) := fun post s hs hp => px_if hg s hs (by rw [pl_fxy (fun s t => pl_Gm) hs]; exact hp)
  refine px_fn hF ?_
  unfold wpY_finest
  dsimp only
  refine py_ju n K L M hn hK hL hM hA hS (fun fi hf => ?_)
  exact ⟨126, py_fnL hf ⟨rfl, n, K, L, M, val, sec, att, fi, rfl, rfl, hn, hK, hL, hM, hS, hA⟩ 125 0 (by omega)⟩
theorem i_vc_finestAt {k : Nat} {u : SX} {v : SY} (I : i_Rel k u v) (hk : k + 4 ≤ 2048) (v1 : Int32) : wpX_finestAt (fun r => wpY_finestAt (fun r' v' => r' = r ∧ i_Rel (k + 4) u v') v v1) u v1 := by
  obtain ⟨n, K, L, M, val, sec, att, fine, rfl, rfl, hn, hK, hL, hM, hS, hA⟩ := I
  have hg : px_Gd (nI n, nI K, nI L, nI M, val, sec) (pl_G val sec n K L M) := fun post s hs hp => px_go n K L M s hs hn hK hL hM hS hp
  have hF : px_Fn (nI n, nI K, nI L, nI M, val, sec) (pl_fy (pl_G val sec n K L M)) := fun post s hs hp => px_if hg s hs (by rw [pl_fxy (fun s t => pl_Gm) hs]; exact hp)
  refine px_fa hF v1 ?_
  unfold wpY_finestAt
  dsimp only
  refine py_ju n K L M hn hK hL hM hA hS (fun fi hf => ?_)
  exact ⟨126, py_faL hf v1 125 0 0 (by omega) ⟨rfl, n, K, L, M, val, sec, att, fi, rfl, rfl, hn, hK, hL, hM, hS, hA⟩⟩
theorem i_vc_best {k : Nat} {u : SX} {v : SY} (I : i_Rel k u v) (hk : k + 4 ≤ 2048) : wpX_best (fun r => wpY_best (fun r' v' => r' = r ∧ i_Rel (k + 4) u v') v) u := by
  obtain ⟨n, K, L, M, val, sec, att, fine, rfl, rfl, hn, hK, hL, hM, hS, hA⟩ := I
  have hg : px_Gd (nI n, nI K, nI L, nI M, val, sec) (pl_G val sec n K L M) := fun post s hs hp => px_go n K L M s hs hn hK hL hM hS hp
  refine px_be hg ?_
  unfold wpY_best
  dsimp only
  refine py_ju n K L M hn hK hL hM hA hS (fun fi hf => ?_)
  exact ⟨126, py_beL hf ⟨rfl, n, K, L, M, val, sec, att, fi, rfl, rfl, hn, hK, hL, hM, hS, hA⟩ 125 0 (by omega)⟩
theorem i_vc_groups {k : Nat} {u : SX} {v : SY} (I : i_Rel k u v) (hk : k + 4 ≤ 2048) (v1 : Int32) : wpX_groups (fun r => wpY_groups (fun r' => r' = r ∧ i_Rel (k + 4) u v) v v1) u v1 := by
  have I0 := I
  obtain ⟨n, K, L, M, val, sec, att, fine, rfl, rfl, hn, hK, hL, hM, hS, hA⟩ := I
  unfold wpX_groups
  dsimp only
  rcases pv_set v1 with ⟨s, hs, rfl⟩ | ⟨hX, hY⟩
  · refine pv_is s hs (br_f (by decide) ⟨n + 1, px_grL n s hs hn ?_ n 0 (by omega)⟩)
    unfold wpY_groups
    dsimp only
    exact py_is s hs (br_f (by decide) ⟨n + 1, py_grL n s hs hn hA ⟨rfl, I0⟩ n 0 (by omega)⟩)
  · refine hX _ (br_t rfl ?_)
    unfold wpY_groups
    dsimp only
    exact hY _ _ (br_t rfl ⟨rfl, I0⟩)
theorem i_vc_lookAlike {k : Nat} {u : SX} {v : SY} (I : i_Rel k u v) (hk : k + 4 ≤ 2048) (v1 : Int32) (v2 : Int32) : wpX_lookAlike (fun r => wpY_lookAlike (fun r' => r' = r ∧ i_Rel (k + 4) u v) v v1 v2) u v1 v2 := by
  have I0 := I
  obtain ⟨n, K, L, M, val, sec, att, fine, rfl, rfl, hn, hK, hL, hM, hS, hA⟩ := I
  unfold wpX_lookAlike wpY_lookAlike
  dsimp only
  rcases pv_set v1 with ⟨s, hs, rfl⟩ | ⟨hX, hY⟩
  · refine pv_is s hs (br_f (by decide) (br_c (fun h0 => ?_) (fun h0 => ?_)))
    · exact py_is s hs (br_f (by decide) (br_t h0 ⟨rfl, I0⟩))
    · obtain ⟨r, hr, rfl⟩ := nI_of h0
      refine pk_lt r n (fun h => ?_) (fun h => ?_)
      · exact px_ca s r n hs (by omega) hn (py_is s hs (br_f (by decide) (br_f h0 (br_t (nI_lt h (by omega)) ⟨n + 1, py_laL n s r hs hn h hA ⟨rfl, I0⟩ n 0 (by omega)⟩))))
      · exact py_is s hs (br_f (by decide) (br_f h0 (br_f (nI_nlt h hr) ⟨rfl, I0⟩)))
  · exact hX _ (br_t rfl (hY _ _ (br_t rfl ⟨rfl, I0⟩)))
end
