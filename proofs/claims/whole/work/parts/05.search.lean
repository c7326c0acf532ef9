/-! the search: the fold over 4096 structures, the reference's loops, the component's four loops -/
def sl_wq (sc : Nat → Int32) : Option Nat → Int32
  | none => -100000
  | some s => sl_wo sc s
def sl_kp : Option Nat → Int32
  | none => -1
  | some s => nI (sl_pk s)
def sl_fq : Option Nat → Nat
  | none => 0
  | some s => s
def sl_sp (mp : Int32) (sc ek : Nat → Int32) (P : Nat → Bool) (s : Nat) (q : Option Nat) : Option Nat :=
  if (P s && (sl_aw mp ek s && decide (¬ sl_wo sc s ≤ sl_wq sc q))) = true then some s else q
def sl_MF (mp : Int32) (sc ek : Nat → Int32) (P : Nat → Bool) : Option Nat := sl_go (sl_sp mp sc ek P) 0 4096 none
theorem sl_spT {mp : Int32} {sc ek : Nat → Int32} {P : Nat → Bool} {s : Nat} {q : Option Nat} (h1 : P s = true) (h2 : sl_aw mp ek s = true) (h3 : ¬ sl_wo sc s ≤ sl_wq sc q) : sl_sp mp sc ek P s q = some s := by
  unfold sl_sp
  rw [h1, h2, decide_eq_true h3]
  rfl
theorem sl_spP {mp : Int32} {sc ek : Nat → Int32} {P : Nat → Bool} {s : Nat} {q : Option Nat} (h1 : P s = false) : sl_sp mp sc ek P s q = q := by
  unfold sl_sp
  rw [h1]
  rfl
theorem sl_spA {mp : Int32} {sc ek : Nat → Int32} {P : Nat → Bool} {s : Nat} {q : Option Nat} (h1 : sl_aw mp ek s = false) : sl_sp mp sc ek P s q = q := by
  unfold sl_sp
  rw [h1, Bool.false_and, Bool.and_false]
  rfl
theorem sl_spW {mp : Int32} {sc ek : Nat → Int32} {P : Nat → Bool} {s : Nat} {q : Option Nat} (h1 : sl_wo sc s ≤ sl_wq sc q) : sl_sp mp sc ek P s q = q := by
  unfold sl_sp
  rw [decide_eq_false (fun z => z h1), Bool.and_false, Bool.and_false]
  rfl
theorem sl_wkL {post : SY → Prop} {l kn : Int32} {sX a b c : Nat → Int32} (hT : sl_sT sX a) (hc : sl_nT c) : ∀ k s q, s + k = 4096 → post (l, kn, sl_wq sX (sl_go (sl_sp l sX b (fun _ => true)) s k q), nI (sl_fq (sl_go (sl_sp l sX b (fun _ => true)) s k q)), a, b, c) → wY_workOut_26 post l kn a b c (k + 1) (nI s) (sl_wq sX q) (nI (sl_fq q)) := by
  intro k
  induction k with
  | zero =>
    intro s q hs h
    exact br_t (nI_le (a := 4096) (by omega) (by omega)) h
  | succ k ih =>
    intro s q hs h
    have h4 : s < 4096 := by omega
    have hr := fun q' (e : sl_sp l sX b (fun _ => true) s q = q') => ih (s + 1) q' (by omega) (by rw [← e]; exact h)
    refine br_f (nI_ge (b := 4096) h4 (by decide)) (sl_awY hc h4 ?_)
    cases ha : sl_aw l b s
    · exact br_t rfl (nm_r (nI_1 s) (hr q (sl_spA ha)))
    · refine br_f (by decide) (sl_woY hT h4 ?_)
      by_cases hw : sl_wo sX s ≤ sl_wq sX q
      · exact br_t hw (nm_r (nI_1 s) (hr q (sl_spW hw)))
      · exact br_f hw (nm_r (nI_1 s) (hr (some s) (sl_spT rfl ha hw)))
theorem sl_byL {post : Int32 → Prop} {l kn m0 f : Int32} {sX a b c : Nat → Int32} {u v w : Nat} (hT : sl_sT sX a) (hc : sl_nT c) (hu : u < 4) (hv : v < 4) (hw2 : w < 2) : ∀ k s q, s + k = 4096 → post (sl_wq sX (sl_go (sl_sp l sX b (fun s => sl_b (sl_mm s v) u == w)) s k q)) → wY_bestBy_7 post (nI u) (nI v) (nI w) l kn m0 f a b c (k + 1) (sl_wq sX q) (nI s) := by
  intro k
  induction k with
  | zero =>
    intro s q hs h
    exact br_t (nI_le (a := 4096) (by omega) (by omega)) h
  | succ k ih =>
    intro s q hs h
    have h4 : s < 4096 := by omega
    have hr := fun q' (e : sl_sp l sX b (fun s => sl_b (sl_mm s v) u == w) s q = q') => ih (s + 1) q' (by omega) (by rw [← e]; exact h)
    refine br_f (nI_ge (b := 4096) h4 (by decide)) (sl_parO h4 hv ?_)
    rw [sl_tBitS u hu _ (sl_mm16 hv)]
    have hb2 := sl_b01 (sl_mm s v) u
    by_cases hP : sl_b (sl_mm s v) u = w
    · have hP' : (sl_b (sl_mm s v) u == w) = true := beq_iff_eq.mpr hP
      refine br_t (congrArg nI hP) (sl_awY hc h4 ?_)
      cases ha : sl_aw l b s
      · exact br_t rfl (nm_r (nI_1 s) (hr q (sl_spA ha)))
      · refine br_f (by decide) (sl_woY hT h4 ?_)
        by_cases hw : sl_wo sX s ≤ sl_wq sX q
        · exact br_t hw (nm_r (nI_1 s) (hr q (sl_spW hw)))
        · exact br_f hw (nm_r (nI_1 s) (hr (some s) (sl_spT hP' ha hw)))
    · have hP' : (sl_b (sl_mm s v) u == w) = false := beq_eq_false_iff_ne.mpr hP
      exact br_f (fun z => hP ((nI_eq (by omega) (by omega)).mp z)) (nm_r (nI_1 s) (hr q (sl_spP hP')))
/-! the component's loops -/
theorem sl_woQ {post : Int32 → Prop} {q : Option Nat} {mp : Int32} {sc ek : Nat → Int32} (h : post (sl_wq sc q)) : wpX_worthOf post (mp, sc, ek) (sl_kp q) := by
  cases q with
  | none => exact sl_woN h
  | some s => exact sl_woX h
theorem sl_nIor (a b : Nat) : nI a ||| nI b = nI (a ||| b) := by
  apply Int32.toBitVec_inj.1
  show BitVec.ofNat 32 a ||| BitVec.ofNat 32 b = BitVec.ofNat 32 (a ||| b)
  apply BitVec.eq_of_getLsbD_eq
  intro i hi
  simp [hi]
theorem sl_orA {a p : Nat} (k : Nat) {s : Int32} (hs : (s.toBitVec.smod 32).toNat = k) (ha : a < 2 ^ k) (hp : p * 2 ^ k < 2 ^ 32) : nI a ||| (nI p <<< s) = nI (a + 2 ^ k * p) := by
  rw [pk_shlN s k hs hp, sl_nIor, Nat.mul_comm p, Nat.or_comm, ← Nat.two_pow_add_eq_or_of_lt ha, Nat.add_comm]
theorem sl_dgO {d0 d1 d2 d3 : Nat} (h0 : d0 < 8) (h1 : d1 < 8) (h2 : d2 < 8) (h3 : d3 < 8) : sl_dg (sl_sO d0 d1 d2 d3) 0 = d0 ∧ sl_dg (sl_sO d0 d1 d2 d3) 1 = d1 ∧ sl_dg (sl_sO d0 d1 d2 d3) 2 = d2 ∧ sl_dg (sl_sO d0 d1 d2 d3) 3 = d3 := by
  unfold sl_dg sl_sO
  refine ⟨?_, ?_, ?_, ?_⟩
  · show _ / 512 % 8 = _
    omega
  · show _ / 64 % 8 = _
    omega
  · show _ / 8 % 8 = _
    omega
  · show _ / 1 % 8 = _
    omega
theorem sl_mmO {d0 d1 d2 d3 : Nat} (h0 : d0 < 8) (h1 : d1 < 8) (h2 : d2 < 8) (h3 : d3 < 8) : sl_mm (sl_sO d0 d1 d2 d3) 0 = sl_mk 0 d0 ∧ sl_mm (sl_sO d0 d1 d2 d3) 1 = sl_mk 1 d1 ∧ sl_mm (sl_sO d0 d1 d2 d3) 2 = sl_mk 2 d2 ∧ sl_mm (sl_sO d0 d1 d2 d3) 3 = sl_mk 3 d3 := by
  obtain ⟨e0, e1, e2, e3⟩ := sl_dgO h0 h1 h2 h3
  unfold sl_mm
  rw [e0, e1, e2, e3]
  exact ⟨rfl, rfl, rfl, rfl⟩
theorem sl_sO4 {d0 d1 d2 d3 : Nat} (h0 : d0 < 8) (h1 : d1 < 8) (h2 : d2 < 8) (h3 : d3 < 8) : sl_sO d0 d1 d2 d3 < 4096 := by
  unfold sl_sO
  omega
def sl_ft (nd br r : Int32) : Bool := decide ((r &&& nd) = nd) && decide ((r &&& br) = 0)
def sl_PX (nd br : Int32) (v s : Nat) : Bool := sl_ft nd br (nI (sl_mm s v))
def sl_tl (mp : Int32) (sc ek : Nat → Int32) (nd br : Int32) (v d0 d1 d2 p : Nat) (q : Option Nat) : Option Nat :=
  if sl_ax mp ek 3 p = true then (if (sl_PX nd br v (sl_sO d0 d1 d2 (sl_un 3 p)) && (sl_nc (sl_mm (sl_sO d0 d1 d2 (sl_un 3 p))) && decide (¬ sl_wo sc (sl_sO d0 d1 d2 (sl_un 3 p)) ≤ sl_wq sc q))) = true then some (sl_sO d0 d1 d2 (sl_un 3 p)) else q) else q
def sl_hd (d0 d1 d2 : Nat) : Nat := sl_mk 0 d0 + 16 * sl_mk 1 d1 + 256 * sl_mk 2 d2
theorem sl_hdLt {d0 d1 d2 : Nat} (h0 : d0 < 8) (h1 : d1 < 8) (h2 : d2 < 8) : sl_hd d0 d1 d2 < 4096 := by
  have a0 := (sl_tMk 0 (by decide) d0 h0).1
  have a1 := (sl_tMk 1 (by decide) d1 h1).1
  have a2 := (sl_tMk 2 (by decide) d2 h2).1
  unfold sl_hd
  omega
theorem sl_axT {mp : Int32} {ek : Nat → Int32} {v p : Nat} (hv : v < 4) (hp : p < 16) (h : sl_ax mp ek v p = true) : sl_un v p < 8 ∧ sl_mk v (sl_un v p) = p := by
  unfold sl_ax at h
  rw [Bool.and_eq_true, beq_iff_eq] at h
  exact sl_tUn v hv p hp h.1
theorem sl_btL {post : Int32 → Prop} {mp nd br : Int32} {sc ek : Nat → Int32} {v d0 d1 d2 : Nat} (hv : v < 4) (h0 : d0 < 8) (h1 : d1 < 8) (h2 : d2 < 8) : ∀ k p q, p + k = 16 → post (sl_kp (sl_go (sl_tl mp sc ek nd br v d0 d1 d2) p k q)) → wX_betterOfTails_13 post (nI (sl_hd d0 d1 d2)) (nI v) nd br mp sc ek (k + 1) (sl_kp q) (sl_wq sc q) (nI p) := by
  intro k
  induction k with
  | zero =>
    intro p q hs h
    exact br_t (nI_le (a := 16) (by omega) (by omega)) h
  | succ k ih =>
    intro p q hs h
    have hp : p < 16 := by omega
    have hr := fun q' (e : sl_tl mp sc ek nd br v d0 d1 d2 p q = q') => ih (p + 1) q' (by omega) (by rw [← e]; exact h)
    refine br_f (nI_ge (b := 16) hp (by decide)) (nm_r (sl_orA 12 (by decide) (sl_hdLt h0 h1 h2) (by omega)) ?_)
    cases hax : sl_ax mp ek 3 p
    · have e : sl_tl mp sc ek nd br v d0 d1 d2 p q = q := by unfold sl_tl; rw [hax]; rfl
      unfold wpX_parentsIn
      refine br_c (fun _ => br_c (fun _ => ?_) (fun _ => ?_)) (fun _ => ?_)
      · refine br_f (by decide) (sl_isA (v := 3) mp sc ek (by decide) hp ?_)
        rw [hax]
        exact br_t rfl (nm_r (nI_1 p) (hr q e))
      · exact br_t rfl (nm_r (nI_1 p) (hr q e))
      · exact br_t rfl (nm_r (nI_1 p) (hr q e))
    · obtain ⟨hd3, hm3⟩ := sl_axT (by decide) hp hax
      have h4 := sl_sO4 h0 h1 h2 hd3
      obtain ⟨m0, m1, m2, m3⟩ := sl_mmO h0 h1 h2 hd3
      have hpk : sl_hd d0 d1 d2 + 2 ^ 12 * p = sl_pk (sl_sO d0 d1 d2 (sl_un 3 p)) := by
        unfold sl_hd sl_pk
        rw [m0, m1, m2, m3, hm3]
      rw [hpk]
      generalize hse : sl_sO d0 d1 d2 (sl_un 3 p) = s at *
      have etl : sl_tl mp sc ek nd br v d0 d1 d2 p q = (if (sl_PX nd br v s && (sl_nc (sl_mm s) && decide (¬ sl_wo sc s ≤ sl_wq sc q))) = true then some s else q) := by
        unfold sl_tl
        rw [hax, hse]
        rfl
      unfold wpX_parentsIn
      rw [sl_pIs hv]
      cases hft : sl_PX nd br v s
      · have e : sl_tl mp sc ek nd br v d0 d1 d2 p q = q := by rw [etl, hft]; rfl
        refine br_c (fun c1 => br_f (fun c2 => ?_) ?_) (fun _ => ?_)
        · unfold sl_PX sl_ft at hft
          rw [decide_eq_true c1, decide_eq_true c2] at hft
          cases hft
        · exact br_t rfl (nm_r (nI_1 p) (hr q e))
        · exact br_t rfl (nm_r (nI_1 p) (hr q e))
      · have hft' := hft
        unfold sl_PX sl_ft at hft'
        rw [Bool.and_eq_true, decide_eq_true_eq, decide_eq_true_eq] at hft'
        refine br_t hft'.1 (br_t hft'.2 (br_f (by decide) (sl_isA (v := 3) mp sc ek (by decide) hp ?_)))
        rw [hax]
        refine br_f (by decide) (sl_ncX (m := sl_mm s) (fun v hv => sl_mm16 hv) (fun v hv => sl_pIs hv) ?_)
        cases hn : sl_nc (sl_mm s)
        · have e : sl_tl mp sc ek nd br v d0 d1 d2 p q = q := by rw [etl, hft, hn]; rfl
          exact br_t rfl (nm_r (nI_1 p) (hr q e))
        · refine br_f (by decide) (sl_woX ?_)
          by_cases hw : sl_wo sc s ≤ sl_wq sc q
          · have e : sl_tl mp sc ek nd br v d0 d1 d2 p q = q := by rw [etl, hft, hn, decide_eq_false (fun z => z hw)]; rfl
            exact br_t hw (nm_r (nI_1 p) (hr q e))
          · have e : sl_tl mp sc ek nd br v d0 d1 d2 p q = some s := by rw [etl, hft, hn, decide_eq_true hw]; rfl
            exact br_f hw (nm_r (nI_1 p) (hr (some s) e))
theorem sl_bt {post : Int32 → Prop} {mp nd br : Int32} {sc ek : Nat → Int32} {v d0 d1 d2 : Nat} {q : Option Nat} (hv : v < 4) (h0 : d0 < 8) (h1 : d1 < 8) (h2 : d2 < 8) (h : post (sl_kp (sl_go (sl_tl mp sc ek nd br v d0 d1 d2) 0 16 q))) : wpX_betterOfTails post (mp, sc, ek) (sl_kp q) (nI (sl_hd d0 d1 d2)) (nI v) nd br := by
  unfold wpX_betterOfTails
  dsimp only
  exact sl_woQ ⟨17, sl_btL hv h0 h1 h2 16 0 q rfl h⟩
def sl_f2 (mp : Int32) (sc ek : Nat → Int32) (nd br : Int32) (v d0 d1 p : Nat) (q : Option Nat) : Option Nat :=
  if sl_ax mp ek 2 p = true then sl_go (sl_tl mp sc ek nd br v d0 d1 (sl_un 2 p)) 0 16 q else q
def sl_f1 (mp : Int32) (sc ek : Nat → Int32) (nd br : Int32) (v d0 p : Nat) (q : Option Nat) : Option Nat :=
  if sl_ax mp ek 1 p = true then sl_go (sl_f2 mp sc ek nd br v d0 (sl_un 1 p)) 0 16 q else q
def sl_f0 (mp : Int32) (sc ek : Nat → Int32) (nd br : Int32) (v p : Nat) (q : Option Nat) : Option Nat :=
  if sl_ax mp ek 0 p = true then sl_go (sl_f1 mp sc ek nd br v (sl_un 0 p)) 0 16 q else q
theorem sl_f2T {mp : Int32} {sc ek : Nat → Int32} {nd br : Int32} {v d0 d1 p : Nat} {q : Option Nat} (h : sl_ax mp ek 2 p = true) : sl_f2 mp sc ek nd br v d0 d1 p q = sl_go (sl_tl mp sc ek nd br v d0 d1 (sl_un 2 p)) 0 16 q := if_pos h
theorem sl_f2F {mp : Int32} {sc ek : Nat → Int32} {nd br : Int32} {v d0 d1 p : Nat} {q : Option Nat} (h : sl_ax mp ek 2 p = false) : sl_f2 mp sc ek nd br v d0 d1 p q = q := if_neg (by rw [h]; exact Bool.false_ne_true)
theorem sl_f1T {mp : Int32} {sc ek : Nat → Int32} {nd br : Int32} {v d0 p : Nat} {q : Option Nat} (h : sl_ax mp ek 1 p = true) : sl_f1 mp sc ek nd br v d0 p q = sl_go (sl_f2 mp sc ek nd br v d0 (sl_un 1 p)) 0 16 q := if_pos h
theorem sl_f1F {mp : Int32} {sc ek : Nat → Int32} {nd br : Int32} {v d0 p : Nat} {q : Option Nat} (h : sl_ax mp ek 1 p = false) : sl_f1 mp sc ek nd br v d0 p q = q := if_neg (by rw [h]; exact Bool.false_ne_true)
theorem sl_f0T {mp : Int32} {sc ek : Nat → Int32} {nd br : Int32} {v p : Nat} {q : Option Nat} (h : sl_ax mp ek 0 p = true) : sl_f0 mp sc ek nd br v p q = sl_go (sl_f1 mp sc ek nd br v (sl_un 0 p)) 0 16 q := if_pos h
theorem sl_f0F {mp : Int32} {sc ek : Nat → Int32} {nd br : Int32} {v p : Nat} {q : Option Nat} (h : sl_ax mp ek 0 p = false) : sl_f0 mp sc ek nd br v p q = q := if_neg (by rw [h]; exact Bool.false_ne_true)
theorem sl_heq {d0 d1 d2 : Nat} (h0 : d0 < 8) (h1 : d1 < 8) (h2 : d2 < 8) : (nI (sl_mk 0 d0) ||| (nI (sl_mk 1 d1) <<< ((4 : Int32) &&& 31))) ||| (nI (sl_mk 2 d2) <<< ((8 : Int32) &&& 31)) = nI (sl_hd d0 d1 d2) := by
  have a0 := (sl_tMk 0 (by decide) d0 h0).1
  have a1 := (sl_tMk 1 (by decide) d1 h1).1
  have a2 := (sl_tMk 2 (by decide) d2 h2).1
  rw [sl_orA 4 (by decide) (by omega) (by omega), sl_orA 8 (by decide) (by omega) (by omega)]
  rfl
theorem sl_L2 {post : Int32 → Prop} {J6 J29 : Int32 → Int32 → Prop} {mp nd br : Int32} {sc ek : Nat → Int32} {v d0 d1 : Nat} (hv : v < 4) (h0 : d0 < 8) (h1 : d1 < 8) : ∀ k p q, p + k = 16 → J29 (sl_kp (sl_go (sl_f2 mp sc ek nd br v d0 d1) p k q)) (nI (sl_mk 1 d1 + 1)) → wX_firstBest_52 post J6 J29 (nI v) nd br (nI (sl_mk 0 d0)) (nI (sl_mk 1 d1)) mp sc ek (k + 1) (sl_kp q) (nI p) := by
  intro k
  induction k with
  | zero =>
    intro p q hs h
    exact br_t (nI_le (a := 16) (by omega) (by omega)) (nm_r (nI_1 _) h)
  | succ k ih =>
    intro p q hs h
    have hp : p < 16 := by omega
    have hr := fun q' (e : sl_f2 mp sc ek nd br v d0 d1 p q = q') => ih (p + 1) q' (by omega) (by rw [← e]; exact h)
    refine br_f (nI_ge (b := 16) hp (by decide)) (sl_isA (v := 2) mp sc ek (by decide) hp ?_)
    cases hax : sl_ax mp ek 2 p
    · exact br_t rfl (nm_r (nI_1 p) (hr q (sl_f2F hax)))
    · obtain ⟨hd, hm⟩ := sl_axT (by decide) hp hax
      refine br_f (by decide) (nm_r (e' := nI (sl_hd d0 d1 (sl_un 2 p))) ?_ (sl_bt hv h0 h1 hd (nm_r (nI_1 p) (hr _ (sl_f2T hax)))))
      rw [← sl_heq h0 h1 hd, hm]
theorem sl_L1 {post : Int32 → Prop} {J6 : Int32 → Int32 → Prop} {mp nd br : Int32} {sc ek : Nat → Int32} {v d0 : Nat} (hv : v < 4) (h0 : d0 < 8) : ∀ k p q, p + k = 16 → J6 (sl_kp (sl_go (sl_f1 mp sc ek nd br v d0) p k q)) (nI (sl_mk 0 d0 + 1)) → wX_firstBest_29 post J6 (nI v) nd br (nI (sl_mk 0 d0)) mp sc ek (k + 1) (sl_kp q) (nI p) := by
  intro k
  induction k with
  | zero =>
    intro p q hs h
    exact br_t (nI_le (a := 16) (by omega) (by omega)) (nm_r (nI_1 _) h)
  | succ k ih =>
    intro p q hs h
    have hp : p < 16 := by omega
    have hr := fun q' (e : sl_f1 mp sc ek nd br v d0 p q = q') => ih (p + 1) q' (by omega) (by rw [← e]; exact h)
    refine br_f (nI_ge (b := 16) hp (by decide)) (sl_isA (v := 1) mp sc ek (by decide) hp ?_)
    cases hax : sl_ax mp ek 1 p
    · exact br_t rfl (nm_r (nI_1 p) (hr q (sl_f1F hax)))
    · obtain ⟨hd, hm⟩ := sl_axT (by decide) hp hax
      have hr' := hr _ (sl_f1T hax)
      have hl := sl_L2 (post := post) (J6 := J6) (J29 := wX_firstBest_29 post J6 (nI v) nd br (nI (sl_mk 0 d0)) mp sc ek (k + 1)) (mp := mp) (nd := nd) (br := br) (sc := sc) (ek := ek) hv h0 hd 16 0 q rfl
      rw [hm] at hl
      exact br_f (by decide) ⟨17, hl hr'⟩
theorem sl_L0 {post : Int32 → Prop} {mp nd br : Int32} {sc ek : Nat → Int32} {v : Nat} (hv : v < 4) : ∀ k p q, p + k = 16 → post (sl_kp (sl_go (sl_f0 mp sc ek nd br v) p k q)) → wX_firstBest_6 post (nI v) nd br mp sc ek (k + 1) (sl_kp q) (nI p) := by
  intro k
  induction k with
  | zero =>
    intro p q hs h
    exact br_t (nI_le (a := 16) (by omega) (by omega)) h
  | succ k ih =>
    intro p q hs h
    have hp : p < 16 := by omega
    have hr := fun q' (e : sl_f0 mp sc ek nd br v p q = q') => ih (p + 1) q' (by omega) (by rw [← e]; exact h)
    refine br_f (nI_ge (b := 16) hp (by decide)) (sl_isA (v := 0) mp sc ek (by decide) hp ?_)
    cases hax : sl_ax mp ek 0 p
    · exact br_t rfl (nm_r (nI_1 p) (hr q (sl_f0F hax)))
    · obtain ⟨hd, hm⟩ := sl_axT (by decide) hp hax
      have hr' := hr _ (sl_f0T hax)
      have hl := sl_L1 (post := post) (J6 := wX_firstBest_6 post (nI v) nd br mp sc ek (k + 1)) (mp := mp) (nd := nd) (br := br) (sc := sc) (ek := ek) hv hd 16 0 q rfl
      rw [hm] at hl
      exact br_f (by decide) ⟨17, hl hr'⟩
