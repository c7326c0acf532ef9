/-! small methods: each walk against its value, with a general post -/
theorem sl_ivT {post : Int32 → Prop} {v : Nat} (h : v < 4) (hp : post 1) : wpX_isVariable post (nI v) :=
  br_f (nI_pos (by omega)) (br_f (nI_ge (b := 4) h (by decide)) hp)
theorem sl_ivF {post : Int32 → Prop} {x : Int32} (h : x < 0 ∨ nI 4 ≤ x) (hp : post 0) : wpX_isVariable post x :=
  br_c (fun _ => hp) (fun h0 => br_t (h.resolve_left h0) hp)
theorem sl_bdT {post : Int32 → Prop} {u : SY} {v : Nat} (h : v < 4) (hp : post 0) : wpY_bad post u (nI v) := by
  obtain ⟨l, k, m, f, a, b, c⟩ := u
  exact br_f (nI_pos (by omega)) (br_t (nI_le (b := 3) (by omega) (by decide)) hp)
theorem sl_n43 {x : Int32} (h : nI 4 ≤ x) : ¬ x ≤ 3 := by
  intro h3
  exact absurd (Int32.le_trans h h3) (by decide)
theorem sl_bdF {post : Int32 → Prop} {u : SY} {x : Int32} (h : x < 0 ∨ nI 4 ≤ x) (hp : post 1) : wpY_bad post u x := by
  obtain ⟨l, k, m, f, a, b, c⟩ := u
  exact br_c (fun _ => hp) (fun h0 => br_f (sl_n43 (h.resolve_left h0)) hp)
theorem sl_imT {post : Int32 → Prop} {v p : Nat} (hv : v < 4) (hp : p < 16) (hb : sl_b p v = 0) (h : post 1) : wpX_isMaskOfOthers post (nI v) (nI p) :=
  br_f (nI_pos (by omega)) (br_f (nI_ge (b := 16) hp (by decide)) (br_t ((sl_tBitA v hv p hp).mpr hb) h))
theorem sl_imF {post : Int32 → Prop} {v p : Nat} (hv : v < 4) (hp : p < 16) (hb : sl_b p v = 1) (h : post 0) : wpX_isMaskOfOthers post (nI v) (nI p) :=
  br_f (nI_pos (by omega)) (br_f (nI_ge (b := 16) hp (by decide)) (br_f (fun z => by have := (sl_tBitA v hv p hp).mp z; omega) h))
theorem sl_imO {post : Int32 → Prop} {x y : Int32} (hy : y < 0 ∨ nI 16 ≤ y) (h : post 0) : wpX_isMaskOfOthers post x y :=
  br_c (fun _ => h) (fun h0 => br_t (hy.resolve_left h0) h)
theorem sl_bmT {post : Int32 → Prop} {u : SY} {v p : Nat} (hv : v < 4) (hp : p < 16) (hb : sl_b p v = 0) (h : post 0) : wpY_badMask post u (nI v) (nI p) := by
  obtain ⟨l, k, m, f, a, b, c⟩ := u
  exact br_f (nI_pos (by omega)) (br_f (fun z => absurd z (nI_nlt (a := 15) (b := p) (by omega) (by omega))) (br_f (by rw [sl_tBitS v hv p hp, hb]; decide) h)) 
theorem sl_bmF {post : Int32 → Prop} {u : SY} {v p : Nat} (hv : v < 4) (hp : p < 16) (hb : sl_b p v = 1) (h : post 1) : wpY_badMask post u (nI v) (nI p) := by
  obtain ⟨l, k, m, f, a, b, c⟩ := u
  exact br_f (nI_pos (by omega)) (br_f (fun z => absurd z (nI_nlt (a := 15) (b := p) (by omega) (by omega))) (br_t (by rw [sl_tBitS v hv p hp, hb]; decide) h))
theorem sl_lt16 {y : Int32} (h : nI 16 ≤ y) : 15 < y := Int32.lt_of_lt_of_le (by decide) h
theorem sl_bmO {post : Int32 → Prop} {u : SY} {x y : Int32} (hy : y < 0 ∨ nI 16 ≤ y) (h : post 1) : wpY_badMask post u x y := by
  obtain ⟨l, k, m, f, a, b, c⟩ := u
  exact br_c (fun _ => h) (fun h0 => br_t (sl_lt16 (hy.resolve_left h0)) h)
theorem sl_szS {post : Int32 → Prop} {p u a n : Nat} (hp : p < 16) (hu : u < 4) (h : wX_sizeOf_4 post (nI p) n (nI (a + sl_b p u)) (nI (u + 1))) : wX_sizeOf_4 post (nI p) (n + 1) (nI a) (nI u) :=
  br_f (nI_ge (b := 4) hu (by decide)) (nm_r (by rw [sl_tBitS u hu p hp, nI_add]) (nm_r (nI_1 u) h))
theorem sl_size {post : Int32 → Prop} {p : Nat} (hp : p < 16) (h : post (nI (sl_sz p))) : wpX_sizeOf post (nI p) :=
  ⟨5, sl_szS hp (by decide) (sl_szS hp (by decide) (sl_szS hp (by decide) (sl_szS hp (by decide) (br_t (nI_le (a := 4) (b := 4) (by decide) (by decide)) h))))⟩
theorem sl_bits {post : Int32 → Prop} {u : SY} {p : Nat} (hp : p < 16) (h : post (nI (sl_sz p))) : wpY_bits post u (nI p) := by
  obtain ⟨l, k, m, f, a, b, c⟩ := u
  show post _
  rw [sl_tBits p hp]
  exact h
theorem sl_con0 {post : Int32 → Prop} {p u : Nat} (hp : p < 16) (hu : u < 4) (hb : sl_b p u = 0) (h : post 0) : wpX_contains post (nI p) (nI u) :=
  br_t ((sl_tBitA u hu p hp).mpr hb) h
theorem sl_con1 {post : Int32 → Prop} {p u : Nat} (hp : p < 16) (hu : u < 4) (hb : sl_b p u = 1) (h : post 1) : wpX_contains post (nI p) (nI u) :=
  br_f (fun z => by have := (sl_tBitA u hu p hp).mp z; omega) h
theorem sl_ekAt (ek : Nat → Int32) {u v : Nat} (hu : u < 4) (hv : v < 4) : ek (nI u * 4 + nI v).toNatClampNeg = ek (u * 4 + v) := by
  rw [sl_ix4, nI_clamp (by omega)]
theorem sl_ekIn {u v : Nat} (hu : u < 4) (hv : v < 4) : vp_in (nI u * 4 + nI v) 16 := by
  rw [sl_ix4]
  exact vp_in_nI (by omega) (by decide)
theorem sl_isAl {post : Int32 → Prop} {v p : Nat} (mp : Int32) (sc ek : Nat → Int32) (hv : v < 4) (hp : p < 16) : ∀ k u, u + k = 4 → post (sl_I (sl_al (sl_ek ek v p) u k)) → wX_isAllowed_23 post (nI v) (nI p) mp sc ek (k + 1) (nI u) := by
  intro k
  induction k with
  | zero =>
    intro u hu h
    exact br_t (nI_le (a := 4) (by omega) (by omega)) h
  | succ k ih =>
    intro u hu h
    have hu4 : u < 4 := by omega
    have hr := ih (u + 1) (by omega)
    have h' : post (sl_I (sl_ek ek v p u && sl_al (sl_ek ek v p) (u + 1) k)) := h
    refine br_f (nI_ge (b := 4) hu4 (by decide)) ⟨sl_ekIn hu4 hv, nm_r (sl_ekAt ek hu4 hv) ?_⟩
    rcases sl_b01 p u with hb | hb
    · refine sl_con0 hp hu4 hb (br_t rfl (br_t rfl ?_))
      by_cases h2 : ek (u * 4 + v) = 2
      · refine br_t h2 ?_
        have e : sl_ek ek v p u = false := by simp [sl_ek, hb, h2]
        rw [e] at h'
        exact h'
      · refine br_f h2 (nm_r (nI_1 u) (hr ?_))
        have e : sl_ek ek v p u = true := by simp [sl_ek, hb, h2]
        rw [e] at h'
        exact h'
    · refine sl_con1 hp hu4 hb (br_f (by decide) ?_)
      by_cases h1 : ek (u * 4 + v) = 1
      · refine br_t h1 ?_
        have e : sl_ek ek v p u = false := by simp [sl_ek, hb, h1]
        rw [e] at h'
        exact h'
      · refine br_f h1 (br_f (by decide) (nm_r (nI_1 u) (hr ?_)))
        have e : sl_ek ek v p u = true := by simp [sl_ek, hb, h1]
        rw [e] at h'
        exact h'
def sl_ax (mp : Int32) (ek : Nat → Int32) (v p : Nat) : Bool := (sl_b p v == 0) && sl_ok mp ek v p
theorem sl_isA {post : Int32 → Prop} {v p : Nat} (mp : Int32) (sc ek : Nat → Int32) (hv : v < 4) (hp : p < 16) (h : post (sl_I (sl_ax mp ek v p))) : wpX_isAllowed post (mp, sc, ek) (nI v) (nI p) := by
  unfold wpX_isAllowed
  dsimp only
  unfold sl_ax sl_ok at h
  rcases sl_b01 p v with hb | hb
  · refine sl_imT hv hp hb (br_f (by decide) (sl_size hp ?_))
    rw [hb] at h
    by_cases hl : nI (sl_sz p) ≤ mp
    · rw [decide_eq_true hl] at h
      exact br_t hl ⟨5, sl_isAl mp sc ek hv hp 4 0 rfl h⟩
    · rw [decide_eq_false hl] at h
      exact br_f hl h
  · refine sl_imF hv hp hb (br_t rfl ?_)
    rw [hb] at h
    exact h
theorem sl_wIn {v m : Nat} (hv : v < 4) (hm : m < 16) : vp_in (nI v * 16 + nI m) 64 := by
  rw [sl_ix]
  exact vp_in_nI (by omega) (by decide)
theorem sl_wAt (sc : Nat → Int32) {v m : Nat} (hv : v < 4) (hm : m < 16) : sc (nI v * 16 + nI m).toNatClampNeg = sc (v * 16 + m) := by
  rw [sl_ix, nI_clamp (by omega)]
theorem sl_woS {post : Int32 → Prop} {s v n : Nat} {a mp : Int32} {sc ek : Nat → Int32} (hv : v < 4) (h : wX_worthOf_12 post (nI (sl_pk s)) mp sc ek n (a + sc (v * 16 + sl_mm s v)) (nI (v + 1))) : wX_worthOf_12 post (nI (sl_pk s)) mp sc ek (n + 1) a (nI v) := by
  refine br_f (nI_ge (b := 4) hv (by decide)) ?_
  unfold wpX_parentsIn
  rw [sl_pIs hv]
  exact ⟨sl_wIn hv (sl_mm16 hv), nm_r (by rw [sl_wAt sc hv (sl_mm16 hv)]) (nm_r (nI_1 v) h)⟩
theorem sl_pkN (s : Nat) : ¬ nI (sl_pk s) = -1 := by
  intro h
  have hs := sl_pk16 s
  have := congrArg Int32.toInt h
  rw [nI_toInt (by omega)] at this
  have e : (-1 : Int32).toInt = -1 := by decide
  omega
theorem sl_woX {post : Int32 → Prop} {s : Nat} {mp : Int32} {sc ek : Nat → Int32} (h : post (sl_wo sc s)) : wpX_worthOf post (mp, sc, ek) (nI (sl_pk s)) :=
  br_f (sl_pkN s) ⟨5, sl_woS (v := 0) (by decide) (sl_woS (v := 1) (by decide) (sl_woS (v := 2) (by decide) (sl_woS (v := 3) (by decide) (br_t (nI_le (a := 4) (b := 4) (by decide) (by decide)) h))))⟩
theorem sl_woN {post : Int32 → Prop} {mp : Int32} {sc ek : Nat → Int32} (h : post (-100000)) : wpX_worthOf post (mp, sc, ek) (-1) := br_t rfl h
theorem sl_stLt {m : Nat → Nat} {v p : Nat} (hv : v < 4) (hp : p < 16) : sl_st m v p < 16 := by
  unfold sl_st
  split
  · exact (sl_tOr p hp v hv).2
  · exact hp
theorem sl_goLt {m : Nat → Nat} : ∀ k v p, v + k ≤ 4 → p < 16 → sl_go (sl_st m) v k p < 16 := by
  intro k
  induction k with
  | zero => intro v p _ hp; exact hp
  | succ k ih => intro v p hv hp; exact ih (v + 1) _ (by omega) (sl_stLt (by omega) hp)
theorem sl_ncI {post : Int32 → Prop} {J : Int32 → Int32 → Prop} {m : Nat → Nat} {x y : Int32} (hm : ∀ v, v < 4 → m v < 16) (hx : ∀ v, v < 4 → (x >>> ((4 * nI v) &&& 31)) &&& 15 = nI (m v)) : ∀ k v p, v + k = 4 → p < 16 → J (nI (sl_go (sl_st m) v k p)) (y + 1) → wX_hasNoCircle_11 post J x y (k + 1) (nI p) (nI v) := by
  intro k
  induction k with
  | zero =>
    intro v p hv hp h
    exact br_t (nI_le (a := 4) (by omega) (by omega)) (nm_e h)
  | succ k ih =>
    intro v p hv hp h
    have hv4 : v < 4 := by omega
    refine br_f (nI_ge (b := 4) hv4 (by decide)) ?_
    unfold wpX_parentsIn
    rw [hx v hv4]
    have h' : J (nI (sl_go (sl_st m) (v + 1) k (sl_st m v p))) (y + 1) := h
    by_cases hs : m v &&& (15 - p) = 0
    · refine br_t ((sl_tSub _ (hm v hv4) p hp).mpr hs) (nm_r (sl_tOr p hp v hv4).1 (nm_r (nI_1 v) ?_))
      have e : sl_st m v p = p ||| 2 ^ v := if_pos hs
      rw [e] at h'
      exact ih (v + 1) _ (by omega) (sl_tOr p hp v hv4).2 h'
    · refine br_f (fun z => hs ((sl_tSub _ (hm v hv4) p hp).mp z)) (nm_r (nI_1 v) ?_)
      have e : sl_st m v p = p := if_neg hs
      rw [e] at h'
      exact ih (v + 1) _ (by omega) hp h'
theorem sl_ncO {post : Int32 → Prop} {m : Nat → Nat} {x : Int32} (hm : ∀ v, v < 4 → m v < 16) (hx : ∀ v, v < 4 → (x >>> ((4 * nI v) &&& 31)) &&& 15 = nI (m v)) : ∀ k r p, r + k = 4 → p < 16 → post (sl_I (sl_go (fun _ p => sl_go (sl_st m) 0 4 p) r k p == 15)) → wX_hasNoCircle_4 post x (k + 1) (nI p) (nI r) := by
  intro k
  induction k with
  | zero =>
    intro r p hr hp h
    refine br_t (nI_le (a := 4) (by omega) (by omega)) ?_
    have h' : post (sl_I (p == 15)) := h
    refine pk_eq p 15 (fun e => ?_) (fun e => ?_)
    · rw [beq_iff_eq.mpr e] at h'; exact h'
    · rw [beq_eq_false_iff_ne.mpr e] at h'; exact h'
  | succ k ih =>
    intro r p hr hp h
    refine br_f (nI_ge (b := 4) (by omega) (by decide)) ⟨5, sl_ncI hm hx 4 0 p rfl hp ?_⟩
    rw [nI_1]
    exact ih (r + 1) _ (by omega) (sl_goLt 4 0 p (by omega) hp) h
theorem sl_ncX {post : Int32 → Prop} {m : Nat → Nat} {x : Int32} (hm : ∀ v, v < 4 → m v < 16) (hx : ∀ v, v < 4 → (x >>> ((4 * nI v) &&& 31)) &&& 15 = nI (m v)) (h : post (sl_I (sl_nc m))) : wpX_hasNoCircle post x :=
  ⟨5, sl_ncO hm hx 4 0 0 rfl (by decide) h⟩
