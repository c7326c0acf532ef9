/-! orders: the walks, and the counting -/
theorem sl_bsL {post : Int32 → Prop} {mp : Int32} {sc ek : Nat → Int32} {v B : Nat} (hv : v < 4) (hB : B < 16) : ∀ k p g, p + k = 16 → post (sl_go (sl_bq (sl_Q mp ek v B) (fun p => sc (v * 16 + p))) p k g) → wX_bestScoreFrom_6 post (nI v) (nI B) mp sc ek (k + 1) g (nI p) := by
  intro k
  induction k with
  | zero =>
    intro p g hp h
    exact br_t (nI_le (a := 16) (by omega) (by omega)) h
  | succ k ih =>
    intro p g hp h
    have hp16 : p < 16 := by omega
    have hr := fun g' (e : sl_bq (sl_Q mp ek v B) (fun p => sc (v * 16 + p)) p g = g') => ih (p + 1) g' (by omega) (by rw [← e]; exact h)
    refine br_f (nI_ge (b := 16) hp16 (by decide)) ?_
    have hsu : (nI p &&& (nI B ^^^ (-1))) = 0 ↔ sl_su p B = true := by
      rw [sl_tSub p hp16 B hB]
      unfold sl_su
      exact beq_iff_eq.symm
    cases hs : sl_su p B
    · have e : sl_bq (sl_Q mp ek v B) (fun p => sc (v * 16 + p)) p g = g := by
        unfold sl_bq sl_Q
        rw [hs]
        rfl
      exact br_f (fun z => by rw [hsu, hs] at z; exact absurd z Bool.false_ne_true) (nm_r (nI_1 p) (hr g e))
    · refine br_t (hsu.mpr hs) (sl_isA mp sc ek hv hp16 ?_)
      cases ha : sl_ax mp ek v p
      · have e : sl_bq (sl_Q mp ek v B) (fun p => sc (v * 16 + p)) p g = g := by
          unfold sl_bq sl_Q
          rw [hs, ha]
          rfl
        exact br_t rfl (nm_r (nI_1 p) (hr g e))
      · have hQ : sl_Q mp ek v B p = true := by
          unfold sl_Q
          rw [hs, ha]
          rfl
        refine br_f (by decide) ⟨sl_wIn hv hp16, nm_r (sl_wAt sc hv hp16) ?_⟩
        by_cases hl : sc (v * 16 + p) ≤ g
        · refine br_t hl (nm_r (nI_1 p) (hr g ?_))
          unfold sl_bq
          rw [if_pos hQ, if_pos hl]
        · refine br_f hl (nm_r (nI_1 p) (hr _ ?_))
          unfold sl_bq
          rw [if_pos hQ, if_neg hl]
theorem sl_bsX {post : Int32 → Prop} {mp : Int32} {sc ek : Nat → Int32} {v B : Nat} (hv : v < 4) (hB : B < 16) (h : post (sl_bs mp sc ek v B)) : wpX_bestScoreFrom post (mp, sc, ek) (nI v) (nI B) := by
  unfold sl_bs at h
  exact ⟨17, sl_bsL hv hB 16 0 _ rfl h⟩
theorem sl_t1s : ∀ a, a < 4 → (1 : Int32) <<< (nI a &&& 31) = nI (2 ^ a) ∧ 2 ^ a < 16 := by decide +kernel
theorem sl_wiX {post : Int32 → Prop} {mp : Int32} {sc ek : Nat → Int32} {a b c d : Nat} (ha : a < 4) (hb : b < 4) (hc : c < 4) (hd : d < 4) (hs : a + b + c + d = 6) (h : post (sl_wi mp sc ek a b c d)) : wpX_worthInOrder post (mp, sc, ek) (nI a) (nI b) (nI c) := by
  obtain ⟨e1, l1⟩ := sl_t1s a ha
  obtain ⟨e2, l2⟩ := sl_tOr (2 ^ a) l1 b hb
  obtain ⟨e3, l3⟩ := sl_tOr (2 ^ a ||| 2 ^ b) l2 c hc
  have e6 : ((6 - nI a) - nI b) - nI c = nI d := by
    show ((nI 6 - nI a) - nI b) - nI c = nI d
    rw [pk_sub (by omega), pk_sub (by omega), pk_sub (by omega)]
    exact congrArg nI (by omega)
  unfold wpX_worthInOrder
  dsimp only
  refine nm_r e1 (nm_r e2 (nm_r e3 ?_))
  rw [e6]
  refine sl_bsX (B := 0) ha (by decide) (sl_bsX hb l1 (sl_bsX hc l2 (sl_bsX hd l3 ?_)))
  unfold sl_wi at h
  refine br_c (fun n1 => ?_) (fun n1 => br_c (fun n2 => ?_) (fun n2 => br_c (fun n3 => ?_) (fun n3 => br_c (fun n4 => ?_) (fun n4 => ?_))))
  · rw [if_pos n1] at h; exact h
  · rw [if_neg n1, if_pos n2] at h; exact h
  · rw [if_neg n1, if_neg n2, if_pos n3] at h; exact h
  · rw [if_neg n1, if_neg n2, if_neg n3, if_pos n4] at h; exact h
  · rw [if_neg n1, if_neg n2, if_neg n3, if_neg n4] at h; exact h
def sl_ct (Q : Nat → Bool) (i n : Nat) : Nat := if Q i = true then n + 1 else n
def sl_xq (mp : Int32) (sc ek : Nat → Int32) (g : Int32) (a b c : Nat) : Bool := (!(a == b) && (!(a == c) && !(b == c))) && decide (sl_wi mp sc ek a b c (6 - a - b - c) = g)
theorem sl_ctF {Q : Nat → Bool} {i n : Nat} (h : Q i = false) : sl_ct Q i n = n := by
  unfold sl_ct
  rw [h]
  rfl
theorem sl_ctT {Q : Nat → Bool} {i n : Nat} (h : Q i = true) : sl_ct Q i n = n + 1 := if_pos h
theorem sl_ctE {Q R : Nat → Bool} {i j n : Nat} (h : Q i = R j) : sl_ct Q i n = sl_ct R j n := by
  unfold sl_ct
  rw [h]
theorem sl_o44 {post : Int32 → Prop} {J26 J35 : Int32 → Int32 → Prop} {mp g : Int32} {sc ek : Nat → Int32} {a b : Nat} (ha : a < 4) (hb : b < 4) : ∀ k c n, c + k = 4 → J35 (nI (sl_go (sl_ct (sl_xq mp sc ek g a b)) c k n)) (nI (b + 1)) → wX_orders_44 post J26 J35 g (nI a) (nI b) mp sc ek (k + 1) (nI n) (nI c) := by
  intro k
  induction k with
  | zero =>
    intro c n hc h
    exact br_t (nI_le (a := 4) (by omega) (by omega)) (nm_r (nI_1 b) h)
  | succ k ih =>
    intro c n hc h
    have hc4 : c < 4 := by omega
    have hr := fun n' (e : sl_ct (sl_xq mp sc ek g a b) c n = n') => ih (c + 1) n' (by omega) (by rw [← e]; exact h)
    refine br_f (nI_ge (b := 4) hc4 (by decide)) ?_
    refine pk_eq a b (fun e => nm_r (nI_1 c) (hr n (sl_ctF ?_))) (fun e1 => pk_eq a c (fun e => nm_r (nI_1 c) (hr n (sl_ctF ?_))) (fun e2 => pk_eq b c (fun e => nm_r (nI_1 c) (hr n (sl_ctF ?_))) (fun e3 => ?_)))
    · unfold sl_xq
      rw [beq_iff_eq.mpr e]
      rfl
    · unfold sl_xq
      rw [beq_iff_eq.mpr e, beq_eq_false_iff_ne.mpr e1]
      rfl
    · unfold sl_xq
      rw [beq_iff_eq.mpr e, beq_eq_false_iff_ne.mpr e1, beq_eq_false_iff_ne.mpr e2]
      rfl
    · refine sl_wiX (d := 6 - a - b - c) ha hb hc4 (by omega) (by omega) ?_
      have hx : sl_xq mp sc ek g a b c = decide (sl_wi mp sc ek a b c (6 - a - b - c) = g) := by
        unfold sl_xq
        rw [beq_eq_false_iff_ne.mpr e1, beq_eq_false_iff_ne.mpr e2, beq_eq_false_iff_ne.mpr e3]
        rfl
      by_cases hw : sl_wi mp sc ek a b c (6 - a - b - c) = g
      · exact br_t hw (nm_r (nI_1 n) (nm_r (nI_1 c) (hr _ (sl_ctT (hx.trans (decide_eq_true hw))))))
      · exact br_f hw (nm_r (nI_1 c) (hr n (sl_ctF (hx.trans (decide_eq_false hw)))))
theorem sl_o35 {post : Int32 → Prop} {J26 : Int32 → Int32 → Prop} {mp g : Int32} {sc ek : Nat → Int32} {a : Nat} (ha : a < 4) : ∀ k b n, b + k = 4 → J26 (nI (sl_go (fun b n => sl_go (sl_ct (sl_xq mp sc ek g a b)) 0 4 n) b k n)) (nI (a + 1)) → wX_orders_35 post J26 g (nI a) mp sc ek (k + 1) (nI n) (nI b) := by
  intro k
  induction k with
  | zero =>
    intro b n hb h
    exact br_t (nI_le (a := 4) (by omega) (by omega)) (nm_r (nI_1 a) h)
  | succ k ih =>
    intro b n hb h
    exact br_f (nI_ge (b := 4) (by omega) (by decide)) ⟨5, sl_o44 ha (by omega) 4 0 n rfl (ih (b + 1) _ (by omega) h)⟩
theorem sl_o26 {post : Int32 → Prop} {mp g : Int32} {sc ek : Nat → Int32} : ∀ k a n, a + k = 4 → post (nI (sl_go (fun a n => sl_go (fun b n => sl_go (sl_ct (sl_xq mp sc ek g a b)) 0 4 n) 0 4 n) a k n)) → wX_orders_26 post g mp sc ek (k + 1) (nI n) (nI a) := by
  intro k
  induction k with
  | zero =>
    intro a n ha h
    exact br_t (nI_le (a := 4) (by omega) (by omega)) h
  | succ k ih =>
    intro a n ha h
    exact br_f (nI_ge (b := 4) (by omega) (by decide)) ⟨5, sl_o35 (by omega) 4 0 n rfl (ih (a + 1) _ (by omega) h)⟩
theorem sl_suI {x B : Nat} (hx : x < 16) (hB : B < 16) : (nI x &&& (nI B ^^^ (-1))) = 0 ↔ sl_su x B = true := by
  rw [sl_tSub x hx B hB]
  unfold sl_su
  exact beq_iff_eq.symm
theorem sl_folY {post : Int32 → Prop} {u : SY} {s a b c d : Nat} (hs : s < 4096) (ha : a < 4) (hb : b < 4) (hc : c < 4) (hd : d < 4) (h : post (sl_I (sl_fol s a b c d))) : wpY_follows post u (nI s) (nI a) (nI b) (nI c) (nI d) := by
  obtain ⟨l, k, m, f, x, y, z⟩ := u
  obtain ⟨e1, l1⟩ := sl_t1s a ha
  obtain ⟨e2, l2⟩ := sl_tOr (2 ^ a) l1 b hb
  unfold wpY_follows
  dsimp only
  refine sl_parO hs ha (sl_parO hs hb (sl_parO hs hc ?_))
  rw [e1, e2]
  have ma := sl_mm16 (s := s) ha
  have mb := sl_mm16 (s := s) hb
  have mc := sl_mm16 (s := s) hc
  unfold sl_fol at h
  refine pk_eq (sl_mm s a) 0 (fun c1 => ?_) (fun c1 => ?_)
  · rw [beq_iff_eq.mpr c1, Bool.true_and] at h
    cases c2 : sl_su (sl_mm s b) (2 ^ a)
    · rw [c2] at h
      exact br_f (fun z => by rw [sl_suI mb l1, c2] at z; exact absurd z Bool.false_ne_true) h
    · rw [c2, Bool.true_and] at h
      refine br_t ((sl_suI mb l1).mpr c2) ?_
      cases c3 : sl_su (sl_mm s c) (2 ^ a ||| 2 ^ b)
      · rw [c3] at h
        exact br_f (fun z => by rw [sl_suI mc l2, c3] at z; exact absurd z Bool.false_ne_true) h
      · rw [c3, Bool.true_and] at h
        refine br_t ((sl_suI mc l2).mpr c3) (pk_eq d a (fun c4 => ?_) (fun c4 => ?_))
        · rw [beq_iff_eq.mpr c4] at h
          exact h
        · rw [beq_eq_false_iff_ne.mpr c4] at h
          exact h
  · rw [beq_eq_false_iff_ne.mpr c1] at h
    exact h
def sl_F (mp : Int32) (sc ek : Nat → Int32) (g : Int32) (a b c d s : Nat) : Bool := sl_fol s a b c d && (decide (sl_wo sc s = g) && sl_aw mp ek s)
def sl_sf (mp : Int32) (sc ek : Nat → Int32) (g : Int32) (a b c d : Nat) : Bool := sl_an (sl_F mp sc ek g a b c d) 0 4096
theorem sl_sfL {post : Int32 → Prop} {l kn g f : Int32} {sX x y z : Nat → Int32} (hT : sl_sT sX x) (hz : sl_nT z) {a b c d : Nat} (ha : a < 4) (hb : b < 4) (hc : c < 4) (hd : d < 4) : ∀ k s, s + k = 4096 → post (sl_I (sl_an (sl_F l sX y g a b c d) s k)) → wY_someFollows_3 post (nI a) (nI b) (nI c) (nI d) l kn g f x y z (k + 1) (nI s) := by
  intro k
  induction k with
  | zero =>
    intro s hs h
    exact br_t (nI_le (a := 4096) (by omega) (by omega)) h
  | succ k ih =>
    intro s hs h
    have h4 : s < 4096 := by omega
    have h' : post (sl_I (sl_F l sX y g a b c d s || sl_an (sl_F l sX y g a b c d) (s + 1) k)) := h
    have hr : sl_F l sX y g a b c d s = false → wY_someFollows_3 post (nI a) (nI b) (nI c) (nI d) l kn g f x y z (k + 1) (nI (s + 1)) := fun e => ih (s + 1) (by omega) (by rw [e] at h'; exact h')
    refine br_f (nI_ge (b := 4096) h4 (by decide)) (sl_folY h4 ha hb hc hd ?_)
    cases hf : sl_fol s a b c d
    · exact br_t rfl (nm_r (nI_1 s) (hr (by unfold sl_F; rw [hf]; rfl)))
    · refine br_f (by decide) (sl_woY hT h4 ?_)
      by_cases hw : sl_wo sX s = g
      · refine br_t hw (sl_awY hz h4 ?_)
        cases haw : sl_aw l y s
        · exact br_t rfl (nm_r (nI_1 s) (hr (by unfold sl_F; rw [haw, Bool.and_false, Bool.and_false])))
        · refine br_f (by decide) ?_
          have e : sl_F l sX y g a b c d s = true := by unfold sl_F; rw [hf, haw, decide_eq_true hw]; rfl
          rw [e] at h'
          exact h'
      · exact br_f hw (nm_r (nI_1 s) (hr (by unfold sl_F; rw [decide_eq_false hw, Bool.false_and, Bool.and_false])))
theorem sl_sfY {post : Int32 → Prop} {l kn g f : Int32} {sX x y z : Nat → Int32} (hT : sl_sT sX x) (hz : sl_nT z) {a b c d : Nat} (ha : a < 4) (hb : b < 4) (hc : c < 4) (hd : d < 4) (h : post (sl_I (sl_sf l sX y g a b c d))) : wpY_someFollows post (l, kn, g, f, x, y, z) (nI a) (nI b) (nI c) (nI d) := by
  unfold sl_sf at h
  exact ⟨4097, sl_sfL hT hz ha hb hc hd 4096 0 rfl h⟩
def sl_prm (t : Nat) : Bool := 2 ^ (t % 4) ||| 2 ^ (t / 4 % 4) ||| 2 ^ (t / 16 % 4) ||| 2 ^ (t / 64 % 4) == 15
theorem sl_tCode : ∀ t, t < 256 → nI t &&& 3 = nI (t % 4) ∧ (nI t >>> ((2 : Int32) &&& 31)) &&& 3 = nI (t / 4 % 4) ∧ (nI t >>> ((4 : Int32) &&& 31)) &&& 3 = nI (t / 16 % 4) ∧ (nI t >>> ((6 : Int32) &&& 31)) &&& 3 = nI (t / 64 % 4) := by decide +kernel
theorem sl_tPrm : ∀ t, t < 256 → (((((1 : Int32) <<< (nI (t % 4) &&& 31)) ||| ((1 : Int32) <<< (nI (t / 4 % 4) &&& 31))) ||| ((1 : Int32) <<< (nI (t / 16 % 4) &&& 31))) ||| ((1 : Int32) <<< (nI (t / 64 % 4) &&& 31)) = 15 ↔ sl_prm t = true) := by decide +kernel
def sl_yr (mp : Int32) (sc ek : Nat → Int32) (g : Int32) (t : Nat) : Bool := sl_sf mp sc ek g (t % 4) (t / 4 % 4) (t / 16 % 4) (t / 64 % 4)
theorem sl_oY {post : Int32 → SY → Prop} {l kn g f : Int32} {sX x y z : Nat → Int32} (hT : sl_sT sX x) (hz : sl_nT z) : ∀ k t n, t + k = 256 → post (nI (sl_go (sl_ct (fun t => sl_prm t && sl_yr l sX y g t)) t k n)) (l, kn, g, f, x, y, z) → wY_orders_19 post l kn g f x y z (k + 1) (nI n) (nI t) := by
  intro k
  induction k with
  | zero =>
    intro t n ht h
    exact br_t (nI_le (a := 256) (by omega) (by omega)) h
  | succ k ih =>
    intro t n ht h
    have h256 : t < 256 := by omega
    obtain ⟨ea, eb, ec, ed⟩ := sl_tCode t h256
    have hr := fun n' (e : sl_ct (fun t => sl_prm t && sl_yr l sX y g t) t n = n') => ih (t + 1) n' (by omega) (by rw [← e]; exact h)
    refine br_f (nI_ge (b := 256) h256 (by decide)) (nm_r ea (nm_r eb (nm_r ec (nm_r ed ?_))))
    cases hp : sl_prm t
    · refine br_f (fun w => by rw [sl_tPrm t h256, hp] at w; exact absurd w Bool.false_ne_true) (br_t rfl (nm_r (nI_1 t) (hr n (sl_ctF ?_))))
      rw [hp]
      rfl
    · refine br_t ((sl_tPrm t h256).mpr hp) (br_f (by decide) (sl_sfY hT hz (Nat.mod_lt _ (by decide)) (Nat.mod_lt _ (by decide)) (Nat.mod_lt _ (by decide)) (Nat.mod_lt _ (by decide)) ?_))
      cases hy : sl_sf l sX y g (t % 4) (t / 4 % 4) (t / 16 % 4) (t / 64 % 4)
      · refine br_t rfl (nm_r (nI_1 t) (hr n (sl_ctF ?_)))
        unfold sl_yr
        rw [hp, hy]
        rfl
      · refine br_f (by decide) (nm_r (nI_1 n) (nm_r (nI_1 t) (hr _ (sl_ctT ?_))))
        unfold sl_yr
        rw [hp, hy]
        rfl
theorem sl_goC (Q : Nat → Bool) : ∀ k i n, sl_go (sl_ct Q) i k n = n + (List.range' i k).countP Q := by
  intro k
  induction k with
  | zero => intro i n; rfl
  | succ k ih =>
    intro i n
    show sl_go (sl_ct Q) (i + 1) k (sl_ct Q i n) = _
    rw [ih, List.range'_succ, List.countP_cons]
    unfold sl_ct
    split <;> omega
theorem sl_cF (P r : Nat → Bool) : ∀ l : List Nat, l.countP (fun t => P t && r t) = (l.filter P).countP r := by
  intro l
  induction l with
  | nil => rfl
  | cons a l ih =>
    rw [List.countP_cons, ih, List.filter_cons]
    cases h : P a
    · simp
    · simp [List.countP_cons]
theorem sl_cM (q r : Nat → Bool) (τ : Nat → Nat) : ∀ l : List Nat, (∀ t, t ∈ l → r t = q (τ t)) → l.countP r = (l.map τ).countP q := by
  intro l
  induction l with
  | nil => intro _; rfl
  | cons a l ih =>
    intro h
    rw [List.map_cons, List.countP_cons, List.countP_cons, ih (fun t ht => h t (List.mem_cons_of_mem _ ht)), h a (List.mem_cons_self ..)]
def sl_ds (t : Nat) : Bool := !(t / 16 == t / 4 % 4) && (!(t / 16 == t % 4) && !(t / 4 % 4 == t % 4))
def sl_tau (t : Nat) : Nat := (t % 4) * 16 + (t / 4 % 4) * 4 + t / 16 % 4
theorem sl_tPerm : (((List.range' 0 256).filter sl_prm).map sl_tau).Perm ((List.range' 0 64).filter sl_ds) := by decide +kernel
theorem sl_cnt (q r : Nat → Bool) (h : ∀ t, t < 256 → sl_prm t = true → r t = q (sl_tau t)) : sl_go (sl_ct (fun t => sl_prm t && r t)) 0 256 0 = sl_go (sl_ct (fun t => sl_ds t && q t)) 0 64 0 := by
  rw [sl_goC, sl_goC, sl_cF, sl_cF, sl_cM q r sl_tau, List.Perm.countP_eq q sl_tPerm]
  intro t ht
  rw [List.mem_filter, List.mem_range'_1] at ht
  exact h t (by omega) ht.2
theorem sl_64 {α : Type} (f : Nat → α → α) (q : α) : sl_go f 0 64 q = sl_go (fun a q => sl_go (fun b q => sl_go (fun c q => f ((a * 4 + b) * 4 + c) q) 0 4 q) 0 4 q) 0 4 q := by
  have a := sl_go_mul f 4 16 0 q
  have b := sl_go_mul (fun j q => sl_go (fun l q => f (j * 4 + l) q) 0 4 q) 4 4 0 q
  exact a.trans b
def sl_xr (mp : Int32) (sc ek : Nat → Int32) (g : Int32) (t : Nat) : Bool := decide (sl_wi mp sc ek (t / 16) (t / 4 % 4) (t % 4) (6 - t / 16 - t / 4 % 4 - t % 4) = g)
theorem sl_xN {mp g : Int32} {sc ek : Nat → Int32} : sl_go (fun a n => sl_go (fun b n => sl_go (sl_ct (sl_xq mp sc ek g a b)) 0 4 n) 0 4 n) 0 4 0 = sl_go (sl_ct (fun t => sl_ds t && sl_xr mp sc ek g t)) 0 64 0 := by
  rw [sl_64]
  refine sl_go_congr _ _ 4 0 0 (fun a _ ha n => sl_go_congr _ _ 4 0 n (fun b _ hb n => sl_go_congr _ _ 4 0 n (fun c _ hc n => ?_)))
  have e1 : ((a * 4 + b) * 4 + c) / 16 = a := by omega
  have e2 : ((a * 4 + b) * 4 + c) / 4 % 4 = b := by omega
  have e3 : ((a * 4 + b) * 4 + c) % 4 = c := by omega
  have e : (sl_ds ((a * 4 + b) * 4 + c) && sl_xr mp sc ek g ((a * 4 + b) * 4 + c)) = sl_xq mp sc ek g (((a * 4 + b) * 4 + c) / 16) (((a * 4 + b) * 4 + c) / 4 % 4) (((a * 4 + b) * 4 + c) % 4) := rfl
  rw [e1, e2, e3] at e
  exact sl_ctE e.symm
theorem sl_tDst : ∀ t, t < 256 → sl_prm t = true → sl_dst (t % 4) (t / 4 % 4) (t / 16 % 4) (t / 64 % 4) = true ∧ t / 64 % 4 = 6 - t % 4 - t / 4 % 4 - t / 16 % 4 := by decide +kernel
theorem sl_dstF {a b c d : Nat} (h : sl_dst a b c d = true) : ¬ a = b ∧ ¬ a = c ∧ ¬ b = c ∧ ¬ a = d ∧ ¬ b = d ∧ ¬ c = d := by
  unfold sl_dst at h
  rw [Bool.not_eq_true', Bool.or_eq_false_iff, Bool.or_eq_false_iff, Bool.or_eq_false_iff, Bool.or_eq_false_iff, Bool.or_eq_false_iff, beq_eq_false_iff_ne, beq_eq_false_iff_ne, beq_eq_false_iff_ne, beq_eq_false_iff_ne, beq_eq_false_iff_ne, beq_eq_false_iff_ne] at h
  obtain ⟨⟨⟨⟨⟨h1, h2⟩, h3⟩, h4⟩, h5⟩, h6⟩ := h
  exact ⟨h1, h2, h3, h4, h5, h6⟩
theorem sl_sfT {mp : Int32} {sc ek : Nat → Int32} {g : Int32} {a b c d : Nat} : sl_sf mp sc ek g a b c d = true ↔ ∃ s, s < 4096 ∧ sl_fol s a b c d = true ∧ sl_wo sc s = g ∧ sl_aw mp ek s = true := by
  unfold sl_sf
  rw [sl_an_iff]
  constructor
  · intro ⟨s, _, h2, h3⟩
    unfold sl_F at h3
    rw [Bool.and_eq_true, Bool.and_eq_true, decide_eq_true_eq] at h3
    exact ⟨s, by omega, h3⟩
  · intro ⟨s, h1, h2, h3, h4⟩
    refine ⟨s, by omega, by omega, ?_⟩
    unfold sl_F
    rw [h2, h4, decide_eq_true h3]
    rfl
theorem sl_tauD {a b c : Nat} (ha : a < 4) (hb : b < 4) (hc : c < 4) : (a * 16 + b * 4 + c) / 16 = a ∧ (a * 16 + b * 4 + c) / 4 % 4 = b ∧ (a * 16 + b * 4 + c) % 4 = c := by
  refine ⟨?_, ?_, ?_⟩ <;> omega
theorem sl_yx {mp : Int32} {sc ek : Nat → Int32} {g : Int32} (hbd : sl_bd sc) (hg : ∀ s, s < 4096 → sl_aw mp ek s = true → sl_wo sc s ≤ g) (hgN : ¬ g = -100000) (t : Nat) (ht : t < 256) (hp : sl_prm t = true) : sl_yr mp sc ek g t = sl_xr mp sc ek g (sl_tau t) := by
  obtain ⟨hd, hd6⟩ := sl_tDst t ht hp
  obtain ⟨h1, h2, h3, h4, h5, h6⟩ := sl_dstF hd
  have K := sl_key (mp := mp) (ek := ek) hbd hg hgN (a := t % 4) (b := t / 4 % 4) (c := t / 16 % 4) (d := t / 64 % 4) (Nat.mod_lt _ (by decide)) (Nat.mod_lt _ (by decide)) (Nat.mod_lt _ (by decide)) (Nat.mod_lt _ (by decide)) h1 h2 h3 h4 h5 h6
  have la : t % 4 < 4 := Nat.mod_lt _ (by decide)
  have lb : t / 4 % 4 < 4 := Nat.mod_lt _ (by decide)
  have lc : t / 16 % 4 < 4 := Nat.mod_lt _ (by decide)
  obtain ⟨e1, e2, e3⟩ : sl_tau t / 16 = t % 4 ∧ sl_tau t / 4 % 4 = t / 4 % 4 ∧ sl_tau t % 4 = t / 16 % 4 := sl_tauD la lb lc
  unfold sl_yr sl_xr
  rw [e1, e2, e3, ← hd6]
  rw [Bool.eq_iff_iff, decide_eq_true_eq, sl_sfT]
  exact K
