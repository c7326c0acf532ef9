/-! the reference's private methods -/
theorem sl_mask {post : Int32 → Prop} {u : SY} {v d : Nat} (hv : v < 4) (hd : d < 8) (h : post (nI (sl_mk v d))) : wpY_mask post u (nI v) (nI d) := by
  obtain ⟨l, k, m, f, a, b, c⟩ := u
  refine nm_e ?_
  rw [sl_tMask v hv d hd]
  exact h
theorem sl_digit {post : Int32 → Prop} {u : SY} {v p : Nat} (hv : v < 4) (hp : p < 16) (h : post (nI (sl_un v p))) : wpY_digit post u (nI v) (nI p) := by
  obtain ⟨l, k, m, f, a, b, c⟩ := u
  refine nm_e ?_
  rw [sl_tDigit v hv p hp]
  exact h
theorem sl_digO {post : Int32 → Prop} {u : SY} {s v : Nat} (hs : s < 4096) (hv : v < 4) (h : post (nI (sl_dg s v))) : wpY_digitOf post u (nI s) (nI v) := by
  obtain ⟨l, k, m, f, a, b, c⟩ := u
  unfold wpY_digitOf
  dsimp only
  rw [sl_dI hs hv]
  exact h
theorem sl_parO {post : Int32 → Prop} {u : SY} {s v : Nat} (hs : s < 4096) (hv : v < 4) (h : post (nI (sl_mm s v))) : wpY_parentsOf post u (nI s) (nI v) := by
  obtain ⟨l, k, m, f, a, b, c⟩ := u
  unfold wpY_parentsOf
  dsimp only
  exact sl_digO hs hv (sl_mask hv (sl_dg8 s v) h)
theorem sl_hcI {post : Int32 → Prop} {J : Int32 → Int32 → Prop} {s : Nat} {y : Int32} {l k0 m0 f : Int32} {a b c : Nat → Int32} (hs : s < 4096) : ∀ k v p, v + k = 4 → p < 16 → J (nI (sl_go (sl_st (sl_mm s)) v k p)) (y + 1) → wY_hasCircle_12 post J (nI s) y l k0 m0 f a b c (k + 1) (nI p) (nI v) := by
  intro k
  induction k with
  | zero =>
    intro v p hv hp h
    exact br_t (nI_le (a := 4) (by omega) (by omega)) (nm_e h)
  | succ k ih =>
    intro v p hv hp h
    have hv4 : v < 4 := by omega
    have hm : sl_mm s v < 16 := sl_mm16 hv4
    refine br_f (nI_ge (b := 4) hv4 (by decide)) (sl_parO hs hv4 ?_)
    have h' : J (nI (sl_go (sl_st (sl_mm s)) (v + 1) k (sl_st (sl_mm s) v p))) (y + 1) := h
    by_cases hz : sl_mm s v &&& (15 - p) = 0
    · refine br_t ((sl_tSub _ hm p hp).mpr hz) (nm_r (sl_tOr p hp v hv4).1 (nm_r (nI_1 v) ?_))
      have e : sl_st (sl_mm s) v p = p ||| 2 ^ v := if_pos hz
      rw [e] at h'
      exact ih (v + 1) _ (by omega) (sl_tOr p hp v hv4).2 h'
    · refine br_f (fun z => hz ((sl_tSub _ hm p hp).mp z)) (nm_r (nI_1 v) ?_)
      have e : sl_st (sl_mm s) v p = p := if_neg hz
      rw [e] at h'
      exact ih (v + 1) _ (by omega) hp h'
theorem sl_hcO {post : Int32 → Prop} {s : Nat} {l k0 m0 f : Int32} {a b c : Nat → Int32} (hs : s < 4096) : ∀ k r p, r + k = 4 → p < 16 → post (sl_I (!(sl_go (fun _ p => sl_go (sl_st (sl_mm s)) 0 4 p) r k p == 15))) → wY_hasCircle_4 post (nI s) l k0 m0 f a b c (k + 1) (nI p) (nI r) := by
  intro k
  induction k with
  | zero =>
    intro r p hr hp h
    refine br_t (nI_le (a := 4) (by omega) (by omega)) ?_
    have h' : post (sl_I (!(p == 15))) := h
    refine pk_eq p 15 (fun e => ?_) (fun e => ?_)
    · rw [beq_iff_eq.mpr e] at h'; exact h'
    · rw [beq_eq_false_iff_ne.mpr e] at h'; exact h'
  | succ k ih =>
    intro r p hr hp h
    refine br_f (nI_ge (b := 4) (by omega) (by decide)) ⟨5, sl_hcI hs 4 0 p rfl hp ?_⟩
    rw [nI_1]
    exact ih (r + 1) _ (by omega) (sl_goLt 4 0 p (by omega) hp) h
theorem sl_hc {post : Int32 → Prop} {u : SY} {s : Nat} (hs : s < 4096) (h : post (sl_I (!(sl_nc (sl_mm s))))) : wpY_hasCircle post u (nI s) := by
  obtain ⟨l, k, m, f, a, b, c⟩ := u
  exact ⟨5, sl_hcO hs 4 0 0 rfl (by decide) h⟩
theorem sl_nar1 : vp_nar .boolean 1 = 1 := by rfl
theorem sl_nar0 : vp_nar .boolean 0 = 0 := by rfl
def sl_nT (c : Nat → Int32) : Prop := ∀ s, s < 4096 → c s = sl_I (sl_nc (sl_mm s))
theorem sl_iniL {post : SY → Prop} {l k0 m0 f : Int32} {a b : Nat → Int32} (h : ∀ c, sl_nT c → post (l, k0, m0, f, a, b, c)) : ∀ k s c, s + k = 4096 → (∀ t, t < s → c t = sl_I (sl_nc (sl_mm t))) → wY_init_36 post l k0 m0 f (k + 1) (nI s) a b c := by
  intro k
  induction k with
  | zero =>
    intro s c hs hc
    exact br_t (nI_le (a := 4096) (by omega) (by omega)) (h c (fun t ht => hc t (by omega)))
  | succ k ih =>
    intro s c hs hc
    have h4 : s < 4096 := by omega
    have key : ∀ x, x = sl_I (sl_nc (sl_mm s)) → ∀ t, t < s + 1 → upd c (nI s).toNatClampNeg x t = sl_I (sl_nc (sl_mm t)) := by
      intro x hx t ht
      rw [nI_clamp (by omega)]
      by_cases e : t = s
      · subst e; rw [pk_us]; exact hx
      · rw [pk_un e]; exact hc t (by omega)
    refine br_f (nI_ge (b := 4096) h4 (by decide)) (sl_hc h4 ?_)
    cases hn : sl_nc (sl_mm s)
    · refine br_f (by decide) ⟨vp_in_nI h4 (by decide), nm_e (nm_r (nI_1 s) (ih (s + 1) _ (by omega) (key _ ?_)))⟩
      rw [hn]; rfl
    · refine br_t rfl ⟨vp_in_nI h4 (by decide), nm_e (nm_r (nI_1 s) (ih (s + 1) _ (by omega) (key _ ?_)))⟩
      rw [hn]; rfl
def sl_sT (sX sY : Nat → Int32) : Prop := ∀ v, v < 4 → ∀ d, d < 8 → sY (v * 8 + d) = sX (v * 16 + sl_mk v d)
theorem sl_yIn {v d : Nat} (hv : v < 4) (hd : d < 8) : vp_in (nI v * 8 + nI d) 32 := by
  rw [sl_ix8]
  exact vp_in_nI (by omega) (by decide)
theorem sl_yAt (sY : Nat → Int32) {v d : Nat} (hv : v < 4) (hd : d < 8) : sY (nI v * 8 + nI d).toNatClampNeg = sY (v * 8 + d) := by
  rw [sl_ix8, nI_clamp (by omega)]
theorem sl_wyS {post : Int32 → Prop} {s v n : Nat} {z l k0 m0 f : Int32} {sX a b c : Nat → Int32} (hT : sl_sT sX a) (hs : s < 4096) (hv : v < 4) (h : wY_worth_4 post (nI s) l k0 m0 f a b c n (z + sX (v * 16 + sl_mm s v)) (nI (v + 1))) : wY_worth_4 post (nI s) l k0 m0 f a b c (n + 1) z (nI v) := by
  refine br_f (nI_ge (b := 4) hv (by decide)) (sl_digO hs hv ?_)
  exact ⟨sl_yIn hv (sl_dg8 s v), nm_r (by rw [sl_yAt a hv (sl_dg8 s v), hT v hv _ (sl_dg8 s v)]; rfl) (nm_r (nI_1 v) h)⟩
theorem sl_woY {post : Int32 → Prop} {s : Nat} {l k0 m0 f : Int32} {sX a b c : Nat → Int32} (hT : sl_sT sX a) (hs : s < 4096) (h : post (sl_wo sX s)) : wpY_worth post (l, k0, m0, f, a, b, c) (nI s) :=
  ⟨5, sl_wyS (v := 0) hT hs (by decide) (sl_wyS (v := 1) hT hs (by decide) (sl_wyS (v := 2) hT hs (by decide) (sl_wyS (v := 3) hT hs (by decide) (br_t (nI_le (a := 4) (b := 4) (by decide) (by decide)) h))))⟩
theorem sl_ayI {post : Int32 → Prop} {J : Int32 → Prop} {x : Int32} {v p : Nat} {l k0 m0 f : Int32} {a b c : Nat → Int32} (hv : v < 4) (hp : p < 16) : ∀ k u, u + k = 4 → (sl_al (sl_ek b v p) u k = true → J (nI (v + 1))) → (sl_al (sl_ek b v p) u k = false → post 0) → wY_allowed_42 post J x (nI v) (nI p) l k0 m0 f a b c (k + 1) (nI u) := by
  intro k
  induction k with
  | zero =>
    intro u hu h _
    exact br_t (nI_le (a := 4) (by omega) (by omega)) (nm_r (nI_1 v) (h rfl))
  | succ k ih =>
    intro u hu h g
    have hu4 : u < 4 := by omega
    have hr := ih (u + 1) (by omega)
    have h' : (sl_ek b v p u && sl_al (sl_ek b v p) (u + 1) k) = true → J (nI (v + 1)) := h
    have g' : (sl_ek b v p u && sl_al (sl_ek b v p) (u + 1) k) = false → post 0 := g
    refine br_f (nI_ge (b := 4) hu4 (by decide)) (nm_r (sl_tBitS u hu4 p hp) ⟨sl_ekIn hu4 hv, ?_⟩)
    rw [sl_ekAt b hu4 hv]
    unfold wY_allowed_77
    rw [sl_ekAt b hu4 hv]
    rcases sl_b01 p u with hb | hb
    · rw [hb]
      by_cases h2 : b (u * 4 + v) = 2
      · have e : sl_ek b v p u = false := by simp [sl_ek, hb, h2]
        rw [e] at g'
        exact br_f (by rw [h2]; decide) ⟨sl_ekIn hu4 hv, br_t h2 (br_t rfl (g' rfl))⟩
      · have e : sl_ek b v p u = true := by simp [sl_ek, hb, h2]
        rw [e] at h' g'
        exact br_c (fun _ => br_f (by decide) ⟨sl_ekIn hu4 hv, br_f h2 (nm_r (nI_1 u) (hr h' g'))⟩) (fun _ => ⟨sl_ekIn hu4 hv, br_f h2 (nm_r (nI_1 u) (hr h' g'))⟩)
    · rw [hb]
      by_cases h1 : b (u * 4 + v) = 1
      · have e : sl_ek b v p u = false := by simp [sl_ek, hb, h1]
        rw [e] at g'
        exact br_t h1 (br_t rfl (g' rfl))
      · have e : sl_ek b v p u = true := by simp [sl_ek, hb, h1]
        rw [e] at h' g'
        exact br_f h1 ⟨sl_ekIn hu4 hv, br_c (fun _ => br_f (by decide) (nm_r (nI_1 u) (hr h' g'))) (fun _ => nm_r (nI_1 u) (hr h' g'))⟩
theorem sl_ayO {post : Int32 → Prop} {s : Nat} {l k0 m0 f : Int32} {a b c : Nat → Int32} (hs : s < 4096) : ∀ k v, v + k = 4 → post (sl_I (sl_al (fun v => sl_ok l b v (sl_mm s v)) v k)) → wY_allowed_13 post (nI s) l k0 m0 f a b c (k + 1) (nI v) := by
  intro k
  induction k with
  | zero =>
    intro v hv h
    exact br_t (nI_le (a := 4) (by omega) (by omega)) h
  | succ k ih =>
    intro v hv h
    have hv4 : v < 4 := by omega
    have hm : sl_mm s v < 16 := sl_mm16 hv4
    have h' : post (sl_I (sl_ok l b v (sl_mm s v) && sl_al (fun v => sl_ok l b v (sl_mm s v)) (v + 1) k)) := h
    refine br_f (nI_ge (b := 4) hv4 (by decide)) (sl_parO hs hv4 (sl_bits hm ?_))
    by_cases hl : nI (sl_sz (sl_mm s v)) ≤ l
    · refine br_t hl ⟨5, sl_ayI hv4 hm 4 0 rfl (fun e => ?_) (fun e => ?_)⟩
      · have e2 : sl_ok l b v (sl_mm s v) = true := by unfold sl_ok; rw [e, decide_eq_true hl]; rfl
        rw [e2] at h'
        exact ih (v + 1) (by omega) h'
      · have e2 : sl_ok l b v (sl_mm s v) = false := by unfold sl_ok; rw [e, Bool.and_false]
        rw [e2] at h'
        exact h'
    · have e2 : sl_ok l b v (sl_mm s v) = false := by unfold sl_ok; rw [decide_eq_false hl]; rfl
      rw [e2] at h'
      exact br_f hl h'
def sl_aw (mp : Int32) (ek : Nat → Int32) (s : Nat) : Bool := sl_nc (sl_mm s) && sl_al (fun v => sl_ok mp ek v (sl_mm s v)) 0 4
theorem sl_awY {post : Int32 → Prop} {s : Nat} {l k0 m0 f : Int32} {a b c : Nat → Int32} (hc : sl_nT c) (hs : s < 4096) (h : post (sl_I (sl_aw l b s))) : wpY_allowed post (l, k0, m0, f, a, b, c) (nI s) := by
  refine ⟨vp_in_nI hs (by decide), ?_⟩
  rw [nI_clamp (by omega), hc s hs]
  unfold sl_aw at h
  cases hn : sl_nc (sl_mm s)
  · rw [hn] at h
    exact br_t rfl h
  · rw [hn] at h
    exact br_f (by decide) ⟨5, sl_ayO hs 4 0 rfl h⟩
