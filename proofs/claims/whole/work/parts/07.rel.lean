/-! the relation, what holds of the fold's answer, the simple methods -/
def sl_bd (sX : Nat → Int32) : Prop := ∀ v, v < 4 → ∀ d, d < 8 → -1000 ≤ (sX (v * 16 + sl_mk v d)).toInt ∧ (sX (v * 16 + sl_mk v d)).toInt ≤ 1000
/-- the relation: one limit, one table of edges, scores by mask and by digit alike and bounded, the reference's table of circles, and what it keeps as known is the fold's answer -/
def i_Rel (_ : Nat) (u : SX) (v : SY) : Prop := ∃ (mp : Int32) (sX ek : Nat → Int32) (kn mo fi : Int32) (sY c : Nat → Int32), u = (mp, sX, ek) ∧ v = (mp, kn, mo, fi, sY, ek, c) ∧ sl_sT sX sY ∧ sl_nT c ∧ sl_bd sX ∧ (¬ kn = 0 → mo = sl_wq sX (sl_MF mp sX ek (fun _ => true)) ∧ fi = nI (sl_fq (sl_MF mp sX ek (fun _ => true))))
theorem i_up {k : Nat} {u : SX} {v : SY} (h : i_Rel k u v) : i_Rel (k + 4) u v := h
theorem i_vc0 : wpX_init (fun u => wpY_init (fun v => i_Rel 0 u v)) := by
  refine ⟨4097, sl_iniL (fun c hc => ⟨3, fun _ => 0, fun _ => 0, 0, 0, 0, fun _ => 0, c, rfl, rfl, fun _ _ _ _ => rfl, hc, fun _ _ _ _ => ?_, fun z => absurd rfl z⟩) 4096 0 _ rfl (fun t ht => absurd ht (Nat.not_lt_zero t))⟩
  show -1000 ≤ (0 : Int32).toInt ∧ (0 : Int32).toInt ≤ 1000
  decide
theorem sl_addI {a b : Int32} (h1 : -100000 ≤ a.toInt) (h2 : a.toInt ≤ 100000) (h3 : -100000 ≤ b.toInt) (h4 : b.toInt ≤ 100000) : (a + b).toInt = a.toInt + b.toInt := by
  rw [Int32.toInt_add]
  exact Int.bmod_eq_of_le (by omega) (by omega)
theorem sl_bdm {sX : Nat → Int32} (h : sl_bd sX) {v p : Nat} (hv : v < 4) (hp : p < 16) (hb : sl_b p v = 0) : -1000 ≤ (sX (v * 16 + p)).toInt ∧ (sX (v * 16 + p)).toInt ≤ 1000 := by
  obtain ⟨h8, e⟩ := sl_tUn v hv p hp hb
  have := h v hv _ h8
  rw [e] at this
  exact this
theorem sl_woI {sX : Nat → Int32} (h : sl_bd sX) (s : Nat) : (sl_wo sX s).toInt = (sX (0 * 16 + sl_mm s 0)).toInt + (sX (1 * 16 + sl_mm s 1)).toInt + (sX (2 * 16 + sl_mm s 2)).toInt + (sX (3 * 16 + sl_mm s 3)).toInt := by
  have b0 := sl_bdm h (v := 0) (by decide) (sl_mm16 (s := s) (by decide)) (sl_mmb (by decide))
  have b1 := sl_bdm h (v := 1) (by decide) (sl_mm16 (s := s) (by decide)) (sl_mmb (by decide))
  have b2 := sl_bdm h (v := 2) (by decide) (sl_mm16 (s := s) (by decide)) (sl_mmb (by decide))
  have b3 := sl_bdm h (v := 3) (by decide) (sl_mm16 (s := s) (by decide)) (sl_mmb (by decide))
  unfold sl_wo
  generalize sX (0 * 16 + sl_mm s 0) = x0 at *
  generalize sX (1 * 16 + sl_mm s 1) = x1 at *
  generalize sX (2 * 16 + sl_mm s 2) = x2 at *
  generalize sX (3 * 16 + sl_mm s 3) = x3 at *
  rw [Int32.zero_add]
  have e1 := sl_addI (a := x0) (b := x1) (by omega) (by omega) (by omega) (by omega)
  have e2 := sl_addI (a := x0 + x1) (b := x2) (by omega) (by omega) (by omega) (by omega)
  have e3 := sl_addI (a := x0 + x1 + x2) (b := x3) (by omega) (by omega) (by omega) (by omega)
  omega
theorem sl_woB {sX : Nat → Int32} (h : sl_bd sX) (s : Nat) : -4000 ≤ (sl_wo sX s).toInt ∧ (sl_wo sX s).toInt ≤ 4000 := by
  have b0 := sl_bdm h (v := 0) (by decide) (sl_mm16 (s := s) (by decide)) (sl_mmb (by decide))
  have b1 := sl_bdm h (v := 1) (by decide) (sl_mm16 (s := s) (by decide)) (sl_mmb (by decide))
  have b2 := sl_bdm h (v := 2) (by decide) (sl_mm16 (s := s) (by decide)) (sl_mmb (by decide))
  have b3 := sl_bdm h (v := 3) (by decide) (sl_mm16 (s := s) (by decide)) (sl_mmb (by decide))
  rw [sl_woI h]
  omega
theorem sl_NI : (-100000 : Int32).toInt = -100000 := by decide
theorem sl_woNN {sX : Nat → Int32} (h : sl_bd sX) (s : Nat) : ¬ sl_wo sX s = -100000 := by
  intro e
  have := sl_woB h s
  rw [e, sl_NI] at this
  omega
theorem sl_go_inv {α : Type} (f : Nat → α → α) (I : Nat → α → Prop) : ∀ k i a, (∀ j a, i ≤ j → j < i + k → I j a → I (j + 1) (f j a)) → I i a → I (i + k) (sl_go f i k a) := by
  intro k
  induction k with
  | zero => intro i a _ h; exact h
  | succ k ih =>
    intro i a hs h
    have := ih (i + 1) (f i a) (fun j a h1 h2 => hs j a (by omega) (by omega)) (hs i a (by omega) (by omega) h)
    rw [show i + (k + 1) = i + 1 + k from by omega]
    exact this
theorem sl_MFp (mp : Int32) (sc ek : Nat → Int32) (P : Nat → Bool) : (∀ s, sl_MF mp sc ek P = some s → s < 4096 ∧ P s = true ∧ sl_aw mp ek s = true) ∧ (∀ s, s < 4096 → P s = true → sl_aw mp ek s = true → sl_wo sc s ≤ sl_wq sc (sl_MF mp sc ek P)) := by
  have h := sl_go_inv (sl_sp mp sc ek P) (fun i q => (∀ s, q = some s → s < i ∧ P s = true ∧ sl_aw mp ek s = true) ∧ (∀ s, s < i → P s = true → sl_aw mp ek s = true → sl_wo sc s ≤ sl_wq sc q)) 4096 0 none ?_ ⟨fun s e => by (cases e), fun s e => absurd e (Nat.not_lt_zero s)⟩
  · rw [Nat.zero_add] at h
    exact h
  · intro j q _ _ ⟨h1, h2⟩
    unfold sl_sp
    by_cases hc : (P j && (sl_aw mp ek j && decide (¬ sl_wo sc j ≤ sl_wq sc q))) = true
    · rw [if_pos hc]
      rw [Bool.and_eq_true, Bool.and_eq_true, decide_eq_true_eq] at hc
      obtain ⟨c1, c2, c3⟩ := hc
      refine ⟨fun s e => ?_, fun s hs p1 p2 => ?_⟩
      · cases e
        exact ⟨by omega, c1, c2⟩
      · by_cases e : s = j
        · subst e
          exact Int32.le_refl _
        · exact Int32.le_trans (h2 s (by omega) p1 p2) (Int32.le_of_lt (Int32.not_le.mp c3))
    · rw [if_neg hc]
      refine ⟨fun s e => ?_, fun s hs p1 p2 => ?_⟩
      · have := h1 s e
        exact ⟨by omega, this.2⟩
      · by_cases e : s = j
        · subst e
          rw [p1, p2, Bool.true_and, Bool.true_and, decide_eq_true_eq] at hc
          exact Classical.byContradiction hc
        · exact h2 s (by omega) p1 p2
theorem sl_wkY {post : SY → Prop} {mp kn mo fi : Int32} {sX sY ek c : Nat → Int32} (hT : sl_sT sX sY) (hc : sl_nT c) (hk : ¬ kn = 0 → mo = sl_wq sX (sl_MF mp sX ek (fun _ => true)) ∧ fi = nI (sl_fq (sl_MF mp sX ek (fun _ => true)))) (h : ∀ kn', ¬ kn' = 0 → post (mp, kn', sl_wq sX (sl_MF mp sX ek (fun _ => true)), nI (sl_fq (sl_MF mp sX ek (fun _ => true))), sY, ek, c)) : wpY_workOut post (mp, kn, mo, fi, sY, ek, c) := by
  refine br_c (fun h0 => ?_) (fun h0 => ?_)
  · have h1 := h 1 (by decide)
    unfold sl_MF at h1
    exact ⟨4097, sl_wkL hT hc 4096 0 none rfl h1⟩
  · obtain ⟨e1, e2⟩ := hk h0
    rw [e1, e2]
    exact h kn h0
theorem sl_relU {k : Nat} {mp kn mo fi : Int32} {sX sY ek c : Nat → Int32} (hT : sl_sT sX sY) (hc : sl_nT c) (hb : sl_bd sX) (h1 : mo = sl_wq sX (sl_MF mp sX ek (fun _ => true))) (h2 : fi = nI (sl_fq (sl_MF mp sX ek (fun _ => true)))) : i_Rel k (mp, sX, ek) (mp, kn, mo, fi, sY, ek, c) :=
  ⟨mp, sX, ek, kn, mo, fi, sY, c, rfl, rfl, hT, hc, hb, fun _ => ⟨h1, h2⟩⟩
theorem sl_rel0 {k : Nat} {mp mo fi : Int32} {sX sY ek c : Nat → Int32} (hT : sl_sT sX sY) (hc : sl_nT c) (hb : sl_bd sX) : i_Rel k (mp, sX, ek) (mp, 0, mo, fi, sY, ek, c) :=
  ⟨mp, sX, ek, 0, mo, fi, sY, c, rfl, rfl, hT, hc, hb, fun z => absurd rfl z⟩
theorem sl_sTu {sX sY : Nat → Int32} {v p : Nat} {x : Int32} (hT : sl_sT sX sY) (hv : v < 4) (hp : p < 16) (hb : sl_b p v = 0) : sl_sT (upd sX (v * 16 + p) x) (upd sY (v * 8 + sl_un v p) x) := by
  intro w hw d hd
  obtain ⟨u8, ue⟩ := sl_tUn v hv p hp hb
  obtain ⟨m16, _, me⟩ := sl_tMk w hw d hd
  by_cases e : w * 8 + d = v * 8 + sl_un v p
  · have e1 : w = v := by omega
    subst e1
    have e2 : d = sl_un w p := by omega
    subst e2
    rw [pk_us, ue, pk_us]
  · rw [pk_un e, pk_un, hT w hw d hd]
    intro e2
    have e1 : w = v := by omega
    subst e1
    have e3 : sl_mk w d = p := by omega
    rw [← e3, me] at e
    exact e rfl
theorem sl_bdu {sX : Nat → Int32} {i : Nat} {x : Int32} (hb : sl_bd sX) (h1 : -1000 ≤ x.toInt) (h2 : x.toInt ≤ 1000) : sl_bd (upd sX i x) := by
  intro w hw d hd
  by_cases e : w * 16 + sl_mk w d = i
  · rw [e, pk_us]
    exact ⟨h1, h2⟩
  · rw [pk_un e]
    exact hb w hw d hd
theorem sl_ix16 {x : Int32} : (x < 0 ∨ nI 16 ≤ x) ∨ ∃ j : Nat, j < 16 ∧ x = nI j := by
  rcases pk_ix x (n := 16) (by decide) with h | h | h
  · exact Or.inl (Or.inl h)
  · exact Or.inl (Or.inr h)
  · exact Or.inr h
theorem sl_ixv {x : Int32} : (x < 0 ∨ nI 4 ≤ x) ∨ ∃ j : Nat, j < 4 ∧ x = nI j := by
  rcases pk_ix x (n := 4) (by decide) with h | h | h
  · exact Or.inl (Or.inl h)
  · exact Or.inl (Or.inr h)
  · exact Or.inr h
theorem i_vc_score {k : Nat} {u : SX} {v : SY} (I : i_Rel k u v) (hk : k + 4 ≤ 2048) (v1 : Int32) (v2 : Int32) (v3 : Int32) : wpX_score (fun r u' => wpY_score (fun r' v' => r' = r ∧ i_Rel (k + 4) u' v') v v1 v2 v3) u v1 v2 v3 := by
  have same := i_up I
  obtain ⟨mp, sX, ek, kn, mo, fi, sY, c, rfl, rfl, hT, hc, hb, hk2⟩ := I
  unfold wpX_score wpY_score
  dsimp only
  rcases sl_ixv (x := v1) with h | ⟨v, hv, rfl⟩
  · exact sl_ivF h (br_t rfl (sl_bdF h (br_f (by decide) ⟨rfl, same⟩)))
  · refine sl_ivT hv (br_f (by decide) ?_)
    rcases sl_ix16 (x := v2) with h | ⟨p, hp, rfl⟩
    · exact sl_imO h (br_t rfl (sl_bdT hv (br_t rfl (sl_bmO h (br_f (by decide) ⟨rfl, same⟩)))))
    · rcases sl_b01 p v with hpb | hpb
      · refine sl_imT hv hp hpb (br_f (by decide) ?_)
        by_cases h1 : v3 < -1000
        · exact br_t h1 (sl_bdT hv (br_t rfl (sl_bmT hv hp hpb (br_t rfl (br_t h1 ⟨rfl, same⟩)))))
        · refine br_f h1 ?_
          by_cases h2 : v3 ≤ 1000
          · refine br_t h2 ⟨sl_wIn hv hp, nm_e ?_⟩
            refine sl_bdT hv (br_t rfl (sl_bmT hv hp hpb (br_t rfl (br_f h1 (br_t h2 (sl_digit hv hp ⟨sl_yIn hv (sl_tUn v hv p hp hpb).1, nm_e ⟨rfl, ?_⟩⟩))))))
            have u8 := (sl_tUn v hv p hp hpb).1
            rw [sl_ix, sl_ix8, nI_clamp (by omega), nI_clamp (by omega)]
            have b1 : -1000 ≤ v3.toInt := by
              have := Int32.le_iff_toInt_le.mp (Int32.not_lt.mp h1)
              rw [show (-1000 : Int32).toInt = -1000 from by decide] at this
              exact this
            have b2 : v3.toInt ≤ 1000 := by
              have := Int32.le_iff_toInt_le.mp h2
              rw [show (1000 : Int32).toInt = 1000 from by decide] at this
              exact this
            exact sl_rel0 (sl_sTu hT hv hp hpb) hc (sl_bdu hb b1 b2)
          · exact br_f h2 (sl_bdT hv (br_t rfl (sl_bmT hv hp hpb (br_t rfl (br_f h1 (br_f h2 ⟨rfl, same⟩))))))
      · exact sl_imF hv hp hpb (br_t rfl (sl_bdT hv (br_t rfl (sl_bmF hv hp hpb (br_f (by decide) ⟨rfl, same⟩)))))
theorem i_vc_limit {k : Nat} {u : SX} {v : SY} (I : i_Rel k u v) (hk : k + 4 ≤ 2048) (v1 : Int32) : wpX_limit (fun r u' => wpY_limit (fun r' v' => r' = r ∧ i_Rel (k + 4) u' v') v v1) u v1 := by
  have same := i_up I
  obtain ⟨mp, sX, ek, kn, mo, fi, sY, c, rfl, rfl, hT, hc, hb, hk2⟩ := I
  by_cases h1 : v1 < 0
  · exact br_t h1 (br_t h1 ⟨rfl, same⟩)
  · by_cases h2 : v1 ≤ 3
    · exact br_f h1 (br_t h2 (br_f h1 (br_t h2 ⟨rfl, sl_rel0 hT hc hb⟩)))
    · exact br_f h1 (br_f h2 (br_f h1 (br_f h2 ⟨rfl, same⟩)))
theorem sl_ipT {post : Int32 → Prop} {u v : Nat} (hu : u < 4) (hv : v < 4) (hne : ¬ nI u = nI v) (h : post 1) : wpX_isPair post (nI u) (nI v) := by
  unfold wpX_isPair
  exact sl_ivT hu (br_f (by decide) (sl_ivT hv (br_f (by decide) (br_f hne h))))
theorem sl_ipE {post : Int32 → Prop} {u v : Nat} (hu : u < 4) (hv : v < 4) (hne : nI u = nI v) (h : post 0) : wpX_isPair post (nI u) (nI v) := by
  unfold wpX_isPair
  exact sl_ivT hu (br_f (by decide) (sl_ivT hv (br_f (by decide) (br_t hne h))))
theorem sl_ipU {post : Int32 → Prop} {x y : Int32} (hu : x < 0 ∨ nI 4 ≤ x) (h : post 0) : wpX_isPair post x y := by
  unfold wpX_isPair
  exact sl_ivF hu (br_t rfl h)
theorem sl_ipV {post : Int32 → Prop} {u : Nat} {y : Int32} (hu : u < 4) (hv : y < 0 ∨ nI 4 ≤ y) (h : post 0) : wpX_isPair post (nI u) y := by
  unfold wpX_isPair
  exact sl_ivT hu (br_f (by decide) (sl_ivF hv (br_t rfl h)))
theorem i_vc_edge {k : Nat} {u : SX} {v : SY} (I : i_Rel k u v) (hk : k + 4 ≤ 2048) (v1 : Int32) (v2 : Int32) (v3 : Int32) : wpX_edge (fun r u' => wpY_edge (fun r' v' => r' = r ∧ i_Rel (k + 4) u' v') v v1 v2 v3) u v1 v2 v3 := by
  have same := i_up I
  obtain ⟨mp, sX, ek, kn, mo, fi, sY, c, rfl, rfl, hT, hc, hb, hk2⟩ := I
  unfold wpX_edge wpY_edge
  dsimp only
  rcases sl_ixv (x := v1) with h | ⟨a, ha, rfl⟩
  · exact sl_ipU h (br_t rfl (sl_bdF h (br_f (by decide) ⟨rfl, same⟩)))
  · rcases sl_ixv (x := v2) with h | ⟨b, hb4, rfl⟩
    · exact sl_ipV ha h (br_t rfl (sl_bdT ha (br_t rfl (sl_bdF h (br_f (by decide) ⟨rfl, same⟩)))))
    · by_cases he : nI a = nI b
      · exact sl_ipE ha hb4 he (br_t rfl (sl_bdT ha (br_t rfl (sl_bdT hb4 (br_t rfl (br_t he ⟨rfl, same⟩))))))
      · refine sl_ipT ha hb4 he (br_f (by decide) (nm_e ⟨sl_ekIn ha hb4, nm_e (nm_e ?_)⟩))
        by_cases h3 : v3 &&& 3 = 3
        · exact br_t h3 ⟨sl_ekIn ha hb4, nm_e (sl_bdT ha (br_t rfl (sl_bdT hb4 (br_t rfl (br_f he ⟨sl_ekIn ha hb4, nm_e (br_t h3 ⟨sl_ekIn ha hb4, nm_e ⟨rfl, sl_rel0 hT hc hb⟩⟩)⟩)))))⟩
        · exact br_f h3 ⟨sl_ekIn ha hb4, nm_e (sl_bdT ha (br_t rfl (sl_bdT hb4 (br_t rfl (br_f he ⟨sl_ekIn ha hb4, nm_e (br_f h3 ⟨sl_ekIn ha hb4, nm_e ⟨rfl, sl_rel0 hT hc hb⟩⟩)⟩)))))⟩
theorem i_vc_scoreOf {k : Nat} {u : SX} {v : SY} (I : i_Rel k u v) (hk : k + 4 ≤ 2048) (v1 : Int32) (v2 : Int32) : wpX_scoreOf (fun r => wpY_scoreOf (fun r' => r' = r ∧ i_Rel (k + 4) u v) v v1 v2) u v1 v2 := by
  have same := i_up I
  obtain ⟨mp, sX, ek, kn, mo, fi, sY, c, rfl, rfl, hT, hc, hb, hk2⟩ := I
  unfold wpX_scoreOf wpY_scoreOf
  dsimp only
  rcases sl_ixv (x := v1) with h | ⟨v, hv, rfl⟩
  · exact sl_ivF h (br_t rfl (sl_bdF h (br_f (by decide) ⟨rfl, same⟩)))
  · refine sl_ivT hv (br_f (by decide) ?_)
    rcases sl_ix16 (x := v2) with h | ⟨p, hp, rfl⟩
    · exact sl_imO h (br_t rfl (sl_bdT hv (br_t rfl (sl_bmO h (br_f (by decide) ⟨rfl, same⟩)))))
    · rcases sl_b01 p v with hpb | hpb
      · obtain ⟨u8, ue⟩ := sl_tUn v hv p hp hpb
        refine sl_imT hv hp hpb (br_f (by decide) ⟨sl_wIn hv hp, sl_bdT hv (br_t rfl (sl_bmT hv hp hpb (br_t rfl (sl_digit hv hp ⟨sl_yIn hv u8, ?_, same⟩))))⟩)
        rw [sl_wAt sX hv hp, sl_yAt sY hv u8, hT v hv _ u8, ue]
      · exact sl_imF hv hp hpb (br_t rfl (sl_bdT hv (br_t rfl (sl_bmF hv hp hpb (br_f (by decide) ⟨rfl, same⟩)))))
