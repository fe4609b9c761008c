/-- the same counts, demands and secrets on both sides; the reference keeps the three attributes of each row, the component the number that holds them -/
def i_Rel (k : Nat) (u : SX) (v : SY) : Prop := ∃ (n K L M : Nat) (val sec att fine : Nat → Int32), u = (nI n, nI K, nI L, nI M, val, sec) ∧ v = (nI n, nI K, nI L, nI M, att, sec, fine) ∧ n ≤ 16 ∧ K ≤ 8 ∧ L ≤ 8 ∧ M ≤ 16 ∧ (∀ q, q < n → ∃ c, c < 8 ∧ sec q = nI c) ∧ py_At n val att
theorem i_up {k : Nat} {u : SX} {v : SY} (h : i_Rel k u v) : i_Rel (k + 4) u v := h
theorem i_vc0 : wpX_init (fun u => wpY_init (fun v => i_Rel 0 u v)) :=
  ⟨0, 2, 1, 0, fun _ => 0, fun _ => 0, fun _ => 0, fun _ => 0, rfl, rfl, by decide, by decide, by decide, by decide, fun q hq => absurd hq (by omega), fun q a hq _ => absurd hq (by omega)⟩
theorem i_vc_row {k : Nat} {u : SX} {v : SY} (I : i_Rel k u v) (hk : k + 4 ≤ 2048) (v1 : Int32) (v2 : Int32) : wpX_row (fun r u' => wpY_row (fun r' v' => r' = r ∧ i_Rel (k + 4) u' v') v v1 v2) u v1 v2 := by
  have I0 := I
  obtain ⟨n, K, L, M, val, sec, att, fine, rfl, rfl, hn, hK, hL, hM, hS, hA⟩ := I
  by_cases h0 : v2 < 0
  · exact br_t h0 (br_t h0 ⟨rfl, I0⟩)
  · obtain ⟨c, hc, rfl⟩ := nI_of h0
    refine br_f h0 (pk_le c 7 (fun h7 => ?_) (fun h7 => ?_))
    · refine pk_lt n 16 (fun h16 => ?_) (fun h16 => ?_)
      · refine ⟨vp_in_nI h16 (by decide), nm_r (congrArg (fun z => upd val z v1) (nI_clamp (by omega))) ⟨vp_in_nI h16 (by decide), nm_r (congrArg (fun z => upd sec z (nI c)) (nI_clamp (by omega))) (nm_r (nI_1 n) ?_)⟩⟩
        refine br_f h0 (pk_le c 7 (fun _ => ?_) (fun h => absurd h (by omega)))
        refine pk_eq n 16 (fun h => absurd h (by omega)) (fun _ => ⟨4, ?_⟩)
        refine py_rwS v1 (nI c) n 0 3 h16 (by decide) (py_rwS v1 (nI c) n 1 2 h16 (by decide) (py_rwS v1 (nI c) n 2 1 h16 (by decide) ?_))
        refine br_t (nI_le (a := 3) (b := 3) (by decide) (by decide)) ⟨vp_in_nI h16 (by decide), nm_r (congrArg (fun z => upd sec z (nI c)) (nI_clamp (by omega))) (nm_r (nI_1 n) ⟨rfl, ?_⟩)⟩
        refine ⟨n + 1, K, L, M, upd val n v1, upd sec n (nI c), _, fine, rfl, rfl, by omega, hK, hL, hM, fun q hq => ?_, fun q a hq ha => ?_⟩
        · by_cases e : q = n
          · subst e
            exact ⟨c, by omega, pk_us⟩
          · rw [pk_un e]
            exact hS q (by omega)
        · by_cases e : q = n
          · subst e
            rw [pk_us]
            by_cases a2 : a = 2
            · subst a2
              exact pk_us
            · rw [pk_un (by omega)]
              by_cases a1 : a = 1
              · subst a1
                exact pk_us
              · obtain rfl : a = 0 := by omega
                rw [pk_un (by omega)]
                exact pk_us
          · rw [pk_un e, pk_un (by omega), pk_un (by omega), pk_un (by omega)]
            exact hA q a (by omega) ha
      · refine br_f h0 (pk_le c 7 (fun _ => ?_) (fun h => absurd h (by omega)))
        exact pk_eq n 16 (fun h => ⟨rfl, I0⟩) (fun h => absurd hn (by omega))
    · exact br_f h0 (pk_le c 7 (fun h => absurd h (by omega)) (fun h => ⟨rfl, I0⟩))
theorem i_vc_drop {k : Nat} {u : SX} {v : SY} (I : i_Rel k u v) (hk : k + 4 ≤ 2048) : wpX_drop (fun r u' => wpY_drop (fun r' v' => r' = r ∧ i_Rel (k + 4) u' v') v) u := by
  have I0 := I
  obtain ⟨n, K, L, M, val, sec, att, fine, rfl, rfl, hn, hK, hL, hM, hS, hA⟩ := I
  refine pk_lt 0 n (fun h => ?_) (fun h => ?_)
  · have e : nI n - 1 = nI (n - 1) := pk_sub (b := 1) h
    refine nm_r e (pk_eq n 0 (fun h => absurd h (by omega)) (fun _ => nm_r e ⟨rfl, ?_⟩))
    exact ⟨n - 1, K, L, M, val, sec, att, fine, rfl, rfl, by omega, hK, hL, hM, fun q hq => hS q (by omega), fun q a hq ha => hA q a (by omega) ha⟩
  · exact pk_eq n 0 (fun _ => ⟨rfl, I0⟩) (fun h => absurd h (by omega))
theorem i_vc_demand {k : Nat} {u : SX} {v : SY} (I : i_Rel k u v) (hk : k + 4 ≤ 2048) (v1 : Int32) (v2 : Int32) (v3 : Int32) : wpX_demand (fun r u' => wpY_demand (fun r' v' => r' = r ∧ i_Rel (k + 4) u' v') v v1 v2 v3) u v1 v2 v3 := by
  have I0 := I
  obtain ⟨n, K, L, M, val, sec, att, fine, rfl, rfl, hn, hK, hL, hM, hS, hA⟩ := I
  refine br_c (fun h1 => br_t h1 ⟨rfl, I0⟩) (fun h1 => ?_)
  refine br_c (fun h2 => br_f h1 (br_t h2 ⟨rfl, I0⟩)) (fun h2 => ?_)
  refine br_c (fun h3 => br_f h1 (br_f h2 (br_t h3 ⟨rfl, I0⟩))) (fun h3 => ?_)
  refine br_c (fun h4 => br_f h1 (br_f h2 (br_f h3 (br_t h4 ⟨rfl, I0⟩)))) (fun h4 => ?_)
  refine br_c (fun h5 => br_f h1 (br_f h2 (br_f h3 (br_f h4 (br_t h5 ⟨rfl, I0⟩))))) (fun h5 => ?_)
  refine br_c (fun h6 => br_f h1 (br_f h2 (br_f h3 (br_f h4 (br_f h5 (br_t h6 ⟨rfl, ?_⟩)))))) (fun h6 => br_f h1 (br_f h2 (br_f h3 (br_f h4 (br_f h5 (br_f h6 ⟨rfl, I0⟩))))))
  have p1 : ¬ v1 < 0 := fun z => h1 (Int32.lt_trans z (by decide))
  have p2 : ¬ v2 < 0 := fun z => h3 (Int32.lt_trans z (by decide))
  obtain ⟨a, ha, rfl⟩ := nI_of2 (M := 8) (n := 8) (by decide) p1 (Int32.not_lt.mp h2)
  obtain ⟨b, hb, rfl⟩ := nI_of2 (M := 8) (n := 8) (by decide) p2 (Int32.not_lt.mp h4)
  obtain ⟨c, hc, rfl⟩ := nI_of2 (M := 16) (n := 16) (by decide) h5 h6
  exact ⟨n, a, b, c, val, sec, att, fine, rfl, rfl, hn, ha, hb, hc, hS, hA⟩
/-- both sides refuse what is no setting -/
theorem pv_set (x : Int32) : (∃ s, s < 125 ∧ x = nI s) ∨ ((∀ post : Int32 → Prop, post 0 → wpX_isSetting post x) ∧ (∀ (post : Int32 → Prop) (v : SY), post 0 → wpY_isSetting post v x)) := by
  rcases pk_ix x (n := 125) (by decide) with h | h | ⟨j, hj, e⟩
  · exact Or.inr ⟨fun post hp => br_t h hp, fun post v hp => br_t h hp⟩
  · refine Or.inr ⟨fun post hp => br_c (fun _ => hp) (fun h0 => br_t h hp), fun post v hp => br_c (fun _ => hp) (fun h0 => br_t h hp)⟩
  · exact Or.inl ⟨j, hj, e⟩
theorem pv_is {post : Int32 → Prop} (s : Nat) (hs : s < 125) (hp : post 1) : wpX_isSetting post (nI s) :=
  br_f (nI_pos (by omega)) (br_f (nI_ge (b := 125) hs (by decide)) hp)
theorem i_vc_leftOut {k : Nat} {u : SX} {v : SY} (I : i_Rel k u v) (hk : k + 4 ≤ 2048) (v1 : Int32) : wpX_leftOut (fun r => wpY_leftOut (fun r' => r' = r ∧ i_Rel (k + 4) u v) v v1) u v1 := by
  have I0 := I
  obtain ⟨n, K, L, M, val, sec, att, fine, rfl, rfl, hn, hK, hL, hM, hS, hA⟩ := I
  unfold wpX_leftOut
  dsimp only
  rcases pv_set v1 with ⟨s, hs, rfl⟩ | ⟨hX, hY⟩
  · exact pv_is s hs (br_f (by decide) (px_lo n K L s hs hn hK hL hS (py_lo n K L s hs hn hK hL hA hS ⟨rfl, I0⟩)))
  · refine hX _ (br_t rfl ?_)
    unfold wpY_leftOut
    dsimp only
    exact hY _ _ (br_t rfl ⟨rfl, I0⟩)
theorem i_vc_good {k : Nat} {u : SX} {v : SY} (I : i_Rel k u v) (hk : k + 4 ≤ 2048) (v1 : Int32) : wpX_good (fun r => wpY_good (fun r' => r' = r ∧ i_Rel (k + 4) u v) v v1) u v1 := by
  have I0 := I
  obtain ⟨n, K, L, M, val, sec, att, fine, rfl, rfl, hn, hK, hL, hM, hS, hA⟩ := I
  unfold wpX_good
  dsimp only
  rcases pv_set v1 with ⟨s, hs, rfl⟩ | ⟨hX, hY⟩
  · refine pv_is s hs (br_f (by decide) (px_go n K L M s hs hn hK hL hM hS (pl_bz (fun a => ?_) (fun a => ?_))))
    · refine py_go n K L M s hs hn hK hL hM hA hS ?_
      rw [a]
      exact ⟨rfl, I0⟩
    · refine py_go n K L M s hs hn hK hL hM hA hS ?_
      rw [a]
      exact ⟨rfl, I0⟩
  · refine hX _ (br_t rfl ?_)
    unfold wpY_good
    dsimp only
    exact hY _ _ (br_t rfl ⟨rfl, I0⟩)
theorem i_vc_goodSettings {k : Nat} {u : SX} {v : SY} (I : i_Rel k u v) (hk : k + 4 ≤ 2048) : wpX_goodSettings (fun r => wpY_goodSettings (fun r' v' => r' = r ∧ i_Rel (k + 4) u v') v) u := by
  obtain ⟨n, K, L, M, val, sec, att, fine, rfl, rfl, hn, hK, hL, hM, hS, hA⟩ := I
  refine px_gs (g := pl_G val sec n K L M) (fun post s hs hp => px_go n K L M s hs hn hK hL hM hS hp) ?_
  unfold wpY_goodSettings
  dsimp only
  refine py_ju n K L M hn hK hL hM hA hS (fun fi hf => ?_)
  exact ⟨126, py_gsL hf ⟨rfl, n, K, L, M, val, sec, att, fi, rfl, rfl, hn, hK, hL, hM, hS, hA⟩ 125 0 (by omega)⟩
theorem i_vc_finest {k : Nat} {u : SX} {v : SY} (I : i_Rel k u v) (hk : k + 4 ≤ 2048) : wpX_finest (fun r => wpY_finest (fun r' v' => r' = r ∧ i_Rel (k + 4) u v') v) u := by
  obtain ⟨n, K, L, M, val, sec, att, fine, rfl, rfl, hn, hK, hL, hM, hS, hA⟩ := I
  have hg : px_Gd (nI n, nI K, nI L, nI M, val, sec) (pl_G val sec n K L M) := fun post s hs hp => px_go n K L M s hs hn hK hL hM hS hp
  have hF : px_Fn (nI n, nI K, nI L, nI M, val, sec) (pl_fy (pl_G val sec n K L M)) := fun post s hs hp => px_if hg s hs (by rw [pl_fxy (fun s t => pl_Gm) hs]; exact hp)
  refine px_fn hF ?_
  unfold wpY_finest
  dsimp only
  refine py_ju n K L M hn hK hL hM hA hS (fun fi hf => ?_)
  exact ⟨126, py_fnL hf ⟨rfl, n, K, L, M, val, sec, att, fi, rfl, rfl, hn, hK, hL, hM, hS, hA⟩ 125 0 (by omega)⟩
theorem i_vc_finestAt {k : Nat} {u : SX} {v : SY} (I : i_Rel k u v) (hk : k + 4 ≤ 2048) (v1 : Int32) : wpX_finestAt (fun r => wpY_finestAt (fun r' v' => r' = r ∧ i_Rel (k + 4) u v') v v1) u v1 := by
  obtain ⟨n, K, L, M, val, sec, att, fine, rfl, rfl, hn, hK, hL, hM, hS, hA⟩ := I
  have hg : px_Gd (nI n, nI K, nI L, nI M, val, sec) (pl_G val sec n K L M) := fun post s hs hp => px_go n K L M s hs hn hK hL hM hS hp
  have hF : px_Fn (nI n, nI K, nI L, nI M, val, sec) (pl_fy (pl_G val sec n K L M)) := fun post s hs hp => px_if hg s hs (by rw [pl_fxy (fun s t => pl_Gm) hs]; exact hp)
  refine px_fa hF v1 ?_
  unfold wpY_finestAt
  dsimp only
  refine py_ju n K L M hn hK hL hM hA hS (fun fi hf => ?_)
  exact ⟨126, py_faL hf v1 125 0 0 (by omega) ⟨rfl, n, K, L, M, val, sec, att, fi, rfl, rfl, hn, hK, hL, hM, hS, hA⟩⟩
theorem i_vc_best {k : Nat} {u : SX} {v : SY} (I : i_Rel k u v) (hk : k + 4 ≤ 2048) : wpX_best (fun r => wpY_best (fun r' v' => r' = r ∧ i_Rel (k + 4) u v') v) u := by
  obtain ⟨n, K, L, M, val, sec, att, fine, rfl, rfl, hn, hK, hL, hM, hS, hA⟩ := I
  have hg : px_Gd (nI n, nI K, nI L, nI M, val, sec) (pl_G val sec n K L M) := fun post s hs hp => px_go n K L M s hs hn hK hL hM hS hp
  refine px_be hg ?_
  unfold wpY_best
  dsimp only
  refine py_ju n K L M hn hK hL hM hA hS (fun fi hf => ?_)
  exact ⟨126, py_beL hf ⟨rfl, n, K, L, M, val, sec, att, fi, rfl, rfl, hn, hK, hL, hM, hS, hA⟩ 125 0 (by omega)⟩
theorem i_vc_groups {k : Nat} {u : SX} {v : SY} (I : i_Rel k u v) (hk : k + 4 ≤ 2048) (v1 : Int32) : wpX_groups (fun r => wpY_groups (fun r' => r' = r ∧ i_Rel (k + 4) u v) v v1) u v1 := by
  have I0 := I
  obtain ⟨n, K, L, M, val, sec, att, fine, rfl, rfl, hn, hK, hL, hM, hS, hA⟩ := I
  unfold wpX_groups
  dsimp only
  rcases pv_set v1 with ⟨s, hs, rfl⟩ | ⟨hX, hY⟩
  · refine pv_is s hs (br_f (by decide) ⟨n + 1, px_grL n s hs hn ?_ n 0 (by omega)⟩)
    unfold wpY_groups
    dsimp only
    exact py_is s hs (br_f (by decide) ⟨n + 1, py_grL n s hs hn hA ⟨rfl, I0⟩ n 0 (by omega)⟩)
  · refine hX _ (br_t rfl ?_)
    unfold wpY_groups
    dsimp only
    exact hY _ _ (br_t rfl ⟨rfl, I0⟩)
theorem i_vc_lookAlike {k : Nat} {u : SX} {v : SY} (I : i_Rel k u v) (hk : k + 4 ≤ 2048) (v1 : Int32) (v2 : Int32) : wpX_lookAlike (fun r => wpY_lookAlike (fun r' => r' = r ∧ i_Rel (k + 4) u v) v v1 v2) u v1 v2 := by
  have I0 := I
  obtain ⟨n, K, L, M, val, sec, att, fine, rfl, rfl, hn, hK, hL, hM, hS, hA⟩ := I
  unfold wpX_lookAlike wpY_lookAlike
  dsimp only
  rcases pv_set v1 with ⟨s, hs, rfl⟩ | ⟨hX, hY⟩
  · refine pv_is s hs (br_f (by decide) (br_c (fun h0 => ?_) (fun h0 => ?_)))
    · exact py_is s hs (br_f (by decide) (br_t h0 ⟨rfl, I0⟩))
    · obtain ⟨r, hr, rfl⟩ := nI_of h0
      refine pk_lt r n (fun h => ?_) (fun h => ?_)
      · exact px_ca s r n hs (by omega) hn (py_is s hs (br_f (by decide) (br_f h0 (br_t (nI_lt h (by omega)) ⟨n + 1, py_laL n s r hs hn h hA ⟨rfl, I0⟩ n 0 (by omega)⟩))))
      · exact py_is s hs (br_f (by decide) (br_f h0 (br_f (nI_nlt h hr) ⟨rfl, I0⟩)))
  · exact hX _ (br_t rfl (hY _ _ (br_t rfl ⟨rfl, I0⟩)))
