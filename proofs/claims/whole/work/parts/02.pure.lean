/-! counting below a bound, and whether there is one -/
def pl_c (p : Nat → Bool) : Nat → Nat
  | 0 => 0
  | n + 1 => pl_c p n + (if p n then 1 else 0)
def pl_e (p : Nat → Bool) : Nat → Bool
  | 0 => false
  | n + 1 => pl_e p n || p n
/-- a boolean as the machine holds it -/
def pl_b (b : Bool) : Int32 := if b then 1 else 0
theorem pl_t {p : Nat → Bool} {i : Nat} (h : p i = true) : pl_c p (i + 1) = pl_c p i + 1 := by
  show pl_c p i + (if p i then 1 else 0) = _
  rw [if_pos h]
theorem pl_f {p : Nat → Bool} {i : Nat} (h : p i = false) : pl_c p (i + 1) = pl_c p i := by
  show pl_c p i + (if p i then 1 else 0) = _
  rw [h]
  rfl
theorem pl_tI {p : Nat → Bool} {i : Nat} (h : p i = true) : nI (pl_c p i) + 1 = nI (pl_c p (i + 1)) := by
  rw [pl_t h, nI_1]
theorem pl_cle (p : Nat → Bool) : ∀ n, pl_c p n ≤ n := by
  intro n
  induction n with
  | zero => exact Nat.le_refl 0
  | succ n ih =>
    cases h : p n
    · rw [pl_f h]; omega
    · rw [pl_t h]; omega
theorem pl_cc {p q : Nat → Bool} : ∀ n, (∀ i, i < n → p i = q i) → pl_c p n = pl_c q n := by
  intro n
  induction n with
  | zero => intro _; rfl
  | succ n ih =>
    intro h
    have a := ih (fun i hi => h i (by omega))
    have b := h n (by omega)
    cases hq : q n
    · rw [pl_f hq, pl_f (b.trans hq), a]
    · rw [pl_t hq, pl_t (b.trans hq), a]
theorem pl_cm {p q : Nat → Bool} : ∀ n, (∀ i, i < n → p i = true → q i = true) → pl_c p n ≤ pl_c q n := by
  intro n
  induction n with
  | zero => intro _; exact Nat.le_refl 0
  | succ n ih =>
    intro h
    have a := ih (fun i hi => h i (by omega))
    cases hp : p n
    · rw [pl_f hp]
      exact Nat.le_trans a (Nat.le_add_right _ _)
    · rw [pl_t hp, pl_t (h n (by omega) hp)]
      omega
theorem pl_ins {p q : Nat → Bool} {c : Nat} (hp : p c = false) (hq : q c = true) : ∀ n, c < n → (∀ i, i < n → i ≠ c → q i = p i) → pl_c q n = pl_c p n + 1 := by
  intro n
  induction n with
  | zero => intro h; omega
  | succ n ih =>
    intro h ho
    by_cases e : c = n
    · subst e
      rw [pl_t hq, pl_f hp, pl_cc c (fun i hi => ho i (by omega) (by omega))]
    · have a := ih (by omega) (fun i hi hn => ho i (by omega) hn)
      have b := ho n (by omega) (fun z => e z.symm)
      cases hz : p n
      · rw [pl_f hz, pl_f (b.trans hz), a]
      · rw [pl_t hz, pl_t (b.trans hz), a]
theorem pl_c0 {p : Nat → Bool} : ∀ n, (∀ i, i < n → p i = false) → pl_c p n = 0 := by
  intro n
  induction n with
  | zero => intro _; rfl
  | succ n ih =>
    intro h
    rw [pl_f (h n (by omega))]
    exact ih (fun i hi => h i (by omega))
theorem pl_c1 {p : Nat → Bool} {c : Nat} (hc : p c = true) : ∀ n, c < n → 0 < pl_c p n := by
  intro n
  induction n with
  | zero => intro h; omega
  | succ n ih =>
    intro h
    by_cases e : c = n
    · subst e
      rw [pl_t hc]
      omega
    · have a := ih (by omega)
      exact Nat.lt_of_lt_of_le a (Nat.le_add_right _ _)
theorem pl_ei {p : Nat → Bool} : ∀ n, pl_e p n = true ↔ ∃ i, i < n ∧ p i = true := by
  intro n
  induction n with
  | zero => exact ⟨fun z => absurd (show false = true from z) (by decide), fun ⟨i, hi, _⟩ => absurd hi (by omega)⟩
  | succ n ih =>
    show (pl_e p n || p n) = true ↔ _
    rw [Bool.or_eq_true, ih]
    constructor
    · rintro (⟨i, hi, h⟩ | h)
      · exact ⟨i, by omega, h⟩
      · exact ⟨n, by omega, h⟩
    · rintro ⟨i, hi, h⟩
      by_cases e : i = n
      · subst e
        exact Or.inr h
      · exact Or.inl ⟨i, by omega, h⟩
theorem pl_bz {b : Bool} {A B : Prop} (f : b = false → A) (g : b = true → B) : (pl_b b = 0 → A) ∧ (¬ pl_b b = 0 → B) := by
  cases b
  · exact br_t rfl (f rfl)
  · exact br_f (by decide) (g rfl)
theorem pl_bn (b : Bool) : vp_nar .boolean (pl_b b) = pl_b b := by
  cases b <;> rfl
/-! bits and small tables -/
theorem pl_b1 : ∀ c, c < 8 → ∀ i, i < 32 → bt ((1 : Int32) <<< (nI c &&& 31)) i = decide (i = c) := by decide +kernel
theorem pl_b2 : ∀ b : Bool, ∀ i, i < 32 → bt (nI (if b then 1 else 0)) i = (b && decide (i = 0)) := by decide +kernel
theorem pl_b3 : ∀ i, i < 32 → bt 1 i = decide (i = 0) := by decide +kernel
theorem pl_b4 (x : Int32) {c : Nat} (hc : c < 8) : (x &&& ((1 : Int32) <<< (nI c &&& 31))) = 0 ↔ bt x c = false := by
  constructor
  · intro h
    have a : bt (x &&& ((1 : Int32) <<< (nI c &&& 31))) c = false := by rw [h, b_0]
    rw [b_and, pl_b1 c hc c (by omega), decide_eq_true rfl, Bool.and_true] at a
    exact a
  · intro h
    refine b_ext (fun i hi => ?_)
    rw [b_and, pl_b1 c hc i hi, b_0]
    by_cases e : i = c
    · subst e
      rw [h]
      rfl
    · rw [decide_eq_false e, Bool.and_false]
theorem pl_b5 (x : Int32) {c : Nat} (hc : c < 8) : (x >>> (nI c &&& 31)) &&& 1 = nI (if bt x c then 1 else 0) := by
  refine b_ext (fun i hi => ?_)
  rw [b_and, pl_b3 i hi, pl_b2 _ i hi]
  by_cases e : i = 0
  · subst e
    rw [b_sshr c (by omega) x (by omega), if_pos (by omega)]
    rfl
  · rw [decide_eq_false e, Bool.and_false, Bool.and_false]
theorem pl_b6 (x : Int32) {c : Nat} (hc : c < 8) {i : Nat} (hi : i < 8) : bt (x ||| ((1 : Int32) <<< (nI c &&& 31))) i = (bt x i || decide (i = c)) := by
  rw [b_or, pl_b1 c hc i (by omega)]
theorem pl_s1 : ∀ l, l < 5 → (1 : Int32) <<< (nI l &&& 31) = nI (2 ^ l) := by decide +kernel
theorem pl_s2 : ∀ l, l < 5 → ∀ a, a < 16 → nI a >>> (nI l &&& 31) = nI (a / 2 ^ l) := by decide +kernel
theorem pl_s3 : ∀ a, a < 16 → ∀ b, b < 16 → ∀ c, c < 16 → (nI a ||| (nI b <<< ((4 : Int32) &&& 31))) ||| (nI c <<< ((8 : Int32) &&& 31)) = nI (a + 16 * b + 256 * c) := by decide +kernel
theorem pl_s4 : ∀ l, l < 5 → 0 < 2 ^ l ∧ 2 ^ l < 2 ^ 31 := by decide +kernel
/-! attributes, levels, what is shown -/
def pl_a (x : Int32) (a : Nat) : Nat := (x >>> (nI (4 * a) &&& 31)).toBitVec.toNat % 2 ^ 4
theorem pl_ae (x : Int32) (a : Nat) : (x >>> (nI (4 * a) &&& 31)) &&& 15 = nI (pl_a x a) := pk_and _ 4 (by decide)
theorem pl_a0 (x : Int32) : x &&& 15 = nI (pl_a x 0) := by
  have h := pl_ae x 0
  rw [show nI (4 * 0) = 0 from rfl, sb_shr0] at h
  exact h
theorem pl_al (x : Int32) (a : Nat) : pl_a x a < 16 := Nat.mod_lt _ (by decide)
def pl_lv (s a : Nat) : Nat := if a = 0 then s % 5 else if a = 1 then s / 5 % 5 else s / 25
theorem pl_lvl {s : Nat} (hs : s < 125) (a : Nat) : pl_lv s a < 5 := by
  unfold pl_lv
  split
  · omega
  · split <;> omega
def pl_h (x : Int32) (s a : Nat) : Nat := pl_a x a / 2 ^ pl_lv s a
theorem pl_hl (x : Int32) (s a : Nat) : pl_h x s a < 16 := Nat.lt_of_le_of_lt (Nat.div_le_self _ _) (pl_al x a)
def pl_sh (val : Nat → Int32) (s r : Nat) : Nat := pl_h (val r) s 0 + 16 * pl_h (val r) s 1 + 256 * pl_h (val r) s 2
theorem pl_shl (val : Nat → Int32) (s r : Nat) : pl_sh val s r < 2 ^ 31 := by
  have a := pl_hl (val r) s 0
  have b := pl_hl (val r) s 1
  have c := pl_hl (val r) s 2
  unfold pl_sh
  omega
def pl_A (val : Nat → Int32) (s r q : Nat) : Bool := decide (pl_sh val s r = pl_sh val s q)
theorem pl_Ai {val : Nat → Int32} {s r q : Nat} : pl_A val s r q = true ↔ pl_h (val r) s 0 = pl_h (val q) s 0 ∧ pl_h (val r) s 1 = pl_h (val q) s 1 ∧ pl_h (val r) s 2 = pl_h (val q) s 2 := by
  have a := pl_hl (val r) s 0
  have b := pl_hl (val r) s 1
  have c := pl_hl (val r) s 2
  have a' := pl_hl (val q) s 0
  have b' := pl_hl (val q) s 1
  have c' := pl_hl (val q) s 2
  unfold pl_A pl_sh
  rw [decide_eq_true_eq]
  omega
theorem pl_As (val : Nat → Int32) (s r q : Nat) : pl_A val s r q = pl_A val s q r := by
  unfold pl_A
  exact decide_eq_decide.mpr ⟨Eq.symm, Eq.symm⟩
/-! hidden enough, left out, good -/
def pl_D (val sec : Nat → Int32) (n s r : Nat) : Nat := pl_c (fun c => pl_e (fun q => pl_A val s r q && decide ((sec q).toNatClampNeg = c)) n) 8
def pl_H (val sec : Nat → Int32) (n K L s r : Nat) : Bool := decide (K ≤ pl_c (fun q => pl_A val s r q) n) && decide (L ≤ pl_D val sec n s r)
def pl_L (val sec : Nat → Int32) (n K L s : Nat) : Nat := pl_c (fun r => !pl_H val sec n K L s r) n
def pl_G (val sec : Nat → Int32) (n K L M s : Nat) : Bool := decide (pl_L val sec n K L s ≤ M)
/-- s is t, or coarser -/
def pl_co (s t : Nat) : Prop := pl_lv t 0 ≤ pl_lv s 0 ∧ pl_lv t 1 ≤ pl_lv s 1 ∧ pl_lv t 2 ≤ pl_lv s 2
theorem pl_dv {a b m n : Nat} (h : m ≤ n) (e : a / 2 ^ m = b / 2 ^ m) : a / 2 ^ n = b / 2 ^ n := by
  obtain ⟨d, rfl⟩ : ∃ d, n = m + d := ⟨n - m, by omega⟩
  rw [Nat.pow_add, ← Nat.div_div_eq_div_mul, ← Nat.div_div_eq_div_mul, e]
theorem pl_Am {val : Nat → Int32} {s t r q : Nat} (h : pl_co s t) (e : pl_A val t r q = true) : pl_A val s r q = true := by
  rw [pl_Ai] at e ⊢
  exact ⟨pl_dv h.1 e.1, pl_dv h.2.1 e.2.1, pl_dv h.2.2 e.2.2⟩
theorem pl_Dm {val sec : Nat → Int32} {n s t r : Nat} (h : pl_co s t) : pl_D val sec n t r ≤ pl_D val sec n s r := by
  refine pl_cm 8 (fun c _ hc => ?_)
  rw [pl_ei] at hc ⊢
  obtain ⟨q, hq, e⟩ := hc
  rw [Bool.and_eq_true] at e
  exact ⟨q, hq, by rw [Bool.and_eq_true]; exact ⟨pl_Am h e.1, e.2⟩⟩
theorem pl_Hm {val sec : Nat → Int32} {n K L s t r : Nat} (h : pl_co s t) (e : pl_H val sec n K L t r = true) : pl_H val sec n K L s r = true := by
  unfold pl_H at e ⊢
  rw [Bool.and_eq_true, decide_eq_true_eq, decide_eq_true_eq] at e ⊢
  exact ⟨Nat.le_trans e.1 (pl_cm n (fun _ _ => pl_Am h)), Nat.le_trans e.2 (pl_Dm h)⟩
theorem pl_Gm {val sec : Nat → Int32} {n K L M s t : Nat} (h : pl_co s t) (e : pl_G val sec n K L M t = true) : pl_G val sec n K L M s = true := by
  unfold pl_G at e ⊢
  rw [decide_eq_true_eq] at e ⊢
  refine Nat.le_trans (pl_cm n (fun r _ hr => ?_)) e
  cases hz : pl_H val sec n K L t r
  · rfl
  · rw [pl_Hm h hz] at hr
    exact absurd hr (by decide)
/-! finest: one level down is enough -/
def pl_fx (g : Nat → Bool) (s : Nat) : Bool := g s && (!(decide (1 ≤ s % 5) && g (s - 1)) && !(decide (5 ≤ s % 25) && g (s - 5)) && !(decide (25 ≤ s) && g (s - 25)))
def pl_cb (s t : Nat) : Bool := decide (pl_lv t 0 ≤ pl_lv s 0) && (decide (pl_lv t 1 ≤ pl_lv s 1) && (decide (pl_lv t 2 ≤ pl_lv s 2) && !decide (s = t)))
def pl_fy (g : Nat → Bool) (s : Nat) : Bool := g s && !pl_e (fun t => g t && pl_cb s t) 125
theorem pl_cbi {s t : Nat} : pl_cb s t = true ↔ pl_co s t ∧ s ≠ t := by
  unfold pl_cb pl_co
  rw [Bool.and_eq_true, Bool.and_eq_true, Bool.and_eq_true, decide_eq_true_eq, decide_eq_true_eq, decide_eq_true_eq, Bool.not_eq_true', decide_eq_false_iff_not]
  exact ⟨fun ⟨a, b, c, d⟩ => ⟨⟨a, b, c⟩, d⟩, fun ⟨⟨a, b, c⟩, d⟩ => ⟨a, b, c, d⟩⟩
theorem pl_coi {s t : Nat} : pl_co s t ↔ t % 5 ≤ s % 5 ∧ t / 5 % 5 ≤ s / 5 % 5 ∧ t / 25 ≤ s / 25 := Iff.rfl
theorem pl_d1 {s t : Nat} (hs : s < 125) (ht : t < 125) (h : pl_co s t) (hn : s ≠ t) : (1 ≤ s % 5 ∧ pl_co (s - 1) t) ∨ (5 ≤ s % 25 ∧ pl_co (s - 5) t) ∨ (25 ≤ s ∧ pl_co (s - 25) t) := by
  simp only [pl_coi] at h ⊢
  omega
theorem pl_d2 {s : Nat} (hs : s < 125) (h : 1 ≤ s % 5) : pl_co s (s - 1) ∧ s ≠ s - 1 := by
  simp only [pl_coi]
  omega
theorem pl_d3 {s : Nat} (hs : s < 125) (h : 5 ≤ s % 25) : pl_co s (s - 5) ∧ s ≠ s - 5 := by
  simp only [pl_coi]
  omega
theorem pl_d4 {s : Nat} (hs : s < 125) (h : 25 ≤ s) : pl_co s (s - 25) ∧ s ≠ s - 25 := by
  simp only [pl_coi]
  omega
theorem pl_fxy {g : Nat → Bool} (hm : ∀ s t, pl_co s t → g t = true → g s = true) {s : Nat} (hs : s < 125) : pl_fx g s = pl_fy g s := by
  unfold pl_fx pl_fy
  refine congrArg (fun z => g s && z) ?_
  cases he : pl_e (fun t => g t && pl_cb s t) 125
  · have no : ∀ t, t < 125 → pl_co s t → s ≠ t → g t = false := by
      intro t ht hc hn
      cases hg : g t
      · rfl
      · have : pl_e (fun t => g t && pl_cb s t) 125 = true := by
          rw [pl_ei]
          exact ⟨t, ht, by rw [Bool.and_eq_true]; exact ⟨hg, pl_cbi.mpr ⟨hc, hn⟩⟩⟩
        rw [he] at this
        cases this
    have a1 : (decide (1 ≤ s % 5) && g (s - 1)) = false := by
      by_cases z : 1 ≤ s % 5
      · rw [no (s - 1) (by omega) (pl_d2 hs z).1 (pl_d2 hs z).2, Bool.and_false]
      · rw [decide_eq_false z, Bool.false_and]
    have a2 : (decide (5 ≤ s % 25) && g (s - 5)) = false := by
      by_cases z : 5 ≤ s % 25
      · rw [no (s - 5) (by omega) (pl_d3 hs z).1 (pl_d3 hs z).2, Bool.and_false]
      · rw [decide_eq_false z, Bool.false_and]
    have a3 : (decide (25 ≤ s) && g (s - 25)) = false := by
      by_cases z : 25 ≤ s
      · rw [no (s - 25) (by omega) (pl_d4 hs z).1 (pl_d4 hs z).2, Bool.and_false]
      · rw [decide_eq_false z, Bool.false_and]
    rw [a1, a2, a3]
    rfl
  · rw [pl_ei] at he
    obtain ⟨t, ht, e⟩ := he
    rw [Bool.and_eq_true, pl_cbi] at e
    rcases pl_d1 hs ht e.2.1 e.2.2 with ⟨z, c⟩ | ⟨z, c⟩ | ⟨z, c⟩
    · rw [decide_eq_true z, hm _ _ c e.1]
      simp
    · rw [decide_eq_true z, hm _ _ c e.1]
      simp
    · rw [decide_eq_true z, hm _ _ c e.1]
      simp
/-! finestAt and best, as scans -/
def pl_fa (f : Nat → Bool) (i : Int32) : Nat → Nat → Int32 → Int32
  | 0 => fun _ _ => -5
  | d + 1 => fun s c => if f s then (if c = i then nI s else pl_fa f i d (s + 1) (c + 1)) else pl_fa f i d (s + 1) c
def pl_sm (s : Nat) : Nat := pl_lv s 0 + pl_lv s 1 + pl_lv s 2
def pl_bs (g : Nat → Bool) : Nat → Option Nat
  | 0 => none
  | i + 1 => match pl_bs g i with
    | none => if g i then some i else none
    | some b => if g i && decide (pl_sm i < pl_sm b) then some i else some b
def pl_ob : Option Nat → Int32
  | none => -5
  | some b => nI b
def pl_ol : Option Nat → Nat
  | none => 13
  | some b => pl_sm b
theorem pl_bsl {g : Nat → Bool} : ∀ i b, pl_bs g i = some b → b < i := by
  intro i
  induction i with
  | zero => intro b h; cases h
  | succ i ih =>
    intro b h
    unfold pl_bs at h
    cases hz : pl_bs g i with
    | none =>
      rw [hz] at h
      dsimp only at h
      split at h
      · cases h; omega
      · cases h
    | some c =>
      rw [hz] at h
      dsimp only at h
      have := ih c hz
      split at h
      · cases h; omega
      · cases h; omega
theorem pl_sml {s : Nat} (hs : s < 125) : pl_sm s < 13 := by
  show s % 5 + s / 5 % 5 + s / 25 < 13
  omega
theorem pl_bst {g : Nat → Bool} {i : Nat} (hi : i < 125) (hg : g i = true) (hl : pl_sm i < pl_ol (pl_bs g i)) : pl_bs g (i + 1) = some i := by
  unfold pl_bs
  cases hz : pl_bs g i with
  | none => dsimp only; rw [hg]; rfl
  | some c =>
    rw [hz] at hl
    dsimp only
    rw [hg, decide_eq_true (show pl_sm i < pl_sm c from hl)]
    rfl
theorem pl_bsf {g : Nat → Bool} {i : Nat} (hi : i < 125) (h : g i = false ∨ pl_ol (pl_bs g i) ≤ pl_sm i) : pl_bs g (i + 1) = pl_bs g i := by
  have hs := pl_sml hi
  rw [pl_bs]
  cases hz : pl_bs g i with
  | none =>
    rw [hz] at h
    rcases h with h | h
    · dsimp only; rw [h]; rfl
    · have : 13 ≤ pl_sm i := h
      omega
  | some c =>
    rw [hz] at h
    dsimp only
    rcases h with h | h
    · rw [h]; rfl
    · rw [decide_eq_false (show ¬ pl_sm i < pl_sm c from Nat.not_lt.mpr h), Bool.and_false]; rfl
