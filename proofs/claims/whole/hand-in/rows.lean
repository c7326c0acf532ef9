section
/-! rows pasted from the kit (kit/rows), unchanged -/
theorem pk_us {f : Nat → Int32} {k : Nat} {x : Int32} : upd f k x k = x := if_pos rfl
theorem pk_un {f : Nat → Int32} {k j : Nat} {x : Int32} (h : j ≠ k) : upd f k x j = f j := if_neg h
theorem pk_sub {a b : Nat} (h : b ≤ a) : nI a - nI b = nI (a - b) := by
  obtain ⟨c, rfl⟩ : ∃ c, a = c + b := ⟨a - b, by omega⟩
  rw [← nI_add, Int32.add_sub_cancel, Nat.add_sub_cancel]
theorem pk_mul (a b : Nat) : nI a * nI b = nI (a * b) := (Int32.ofNat_mul a b).symm
theorem pk_ix (x : Int32) {n : Nat} (hn : n < 2 ^ 31) : x < 0 ∨ nI n ≤ x ∨ ∃ j : Nat, j < n ∧ x = nI j := by
  by_cases h : x < 0
  · exact Or.inl h
  · obtain ⟨j, hj, rfl⟩ := nI_of h
    by_cases h2 : j < n
    · exact Or.inr (Or.inr ⟨j, h2, rfl⟩)
    · exact Or.inr (Or.inl (nI_le (by omega) hj))
theorem pk_le {x y : Int32} {A B : Prop} (a b : Nat) (f : a ≤ b → A) (g : b < a → B) (hx : x = nI a := by rfl) (hy : y = nI b := by rfl) (ha : a < 2 ^ 31 := by omega) (hb : b < 2 ^ 31 := by omega) : (x ≤ y → A) ∧ (¬ x ≤ y → B) := by
  subst hx hy
  rw [nI_leI ha hb]
  exact ⟨f, fun z => g (by omega)⟩
theorem pk_lt {x y : Int32} {A B : Prop} (a b : Nat) (f : a < b → A) (g : b ≤ a → B) (hx : x = nI a := by rfl) (hy : y = nI b := by rfl) (ha : a < 2 ^ 31 := by omega) (hb : b < 2 ^ 31 := by omega) : (x < y → A) ∧ (¬ x < y → B) := by
  subst hx hy
  rw [nI_ltI ha hb]
  exact ⟨f, fun z => g (by omega)⟩
theorem pk_eq {x y : Int32} {A B : Prop} (a b : Nat) (f : a = b → A) (g : a ≠ b → B) (hx : x = nI a := by rfl) (hy : y = nI b := by rfl) (ha : a < 2 ^ 31 := by omega) (hb : b < 2 ^ 31 := by omega) : (x = y → A) ∧ (¬ x = y → B) := by
  subst hx hy
  rw [nI_eq ha hb]
  exact ⟨f, g⟩
theorem pk_in {x : Int32} (n N : Nat) (h : n < N) (hx : x = nI n := by rfl) (hN : N < 2 ^ 31 := by omega) : vp_in x N := by
  subst hx
  exact vp_in_nI h hN
theorem pk_cl {x : Int32} (n : Nat) (hx : x = nI n := by rfl) (h : n < 2 ^ 31 := by omega) : x.toNatClampNeg = n := by
  subst hx
  exact nI_clamp h
theorem pk_tn {n : Nat} (h : n < 2 ^ 32) : (nI n).toBitVec.toNat = n := Nat.mod_eq_of_lt h
theorem pk_and (x : Int32) {m : Int32} (k : Nat) (hm : m.toBitVec.toNat = 2 ^ k - 1) : x &&& m = nI (x.toBitVec.toNat % 2 ^ k) := by
  apply Int32.toBitVec_inj.mp
  apply BitVec.eq_of_toNat_eq
  rw [Int32.toBitVec_and, BitVec.toNat_and, hm, Nat.and_two_pow_sub_one_eq_mod]
  show _ = (BitVec.ofNat 32 _).toNat
  rw [BitVec.toNat_ofNat]
  exact (Nat.mod_eq_of_lt (Nat.lt_of_le_of_lt (Nat.mod_le _ _) x.toBitVec.isLt)).symm
theorem pk_andN {n : Nat} (h : n < 2 ^ 32) {m : Int32} (k : Nat) (hm : m.toBitVec.toNat = 2 ^ k - 1) : nI n &&& m = nI (n % 2 ^ k) := by
  rw [pk_and _ k hm, pk_tn h]
theorem pk_andE (x : Int32) {m : Int32} (k : Nat) (hm : m.toBitVec.toNat = 2 ^ k - 1) : ∃ j : Nat, j < 2 ^ k ∧ x &&& m = nI j := ⟨_, Nat.mod_lt _ (Nat.two_pow_pos k), pk_and x k hm⟩
theorem pk_shl (a s : Int32) (k : Nat) (hs : (s.toBitVec.smod 32).toNat = k) : (a <<< s).toBitVec.toNat = a.toBitVec.toNat * 2 ^ k % 2 ^ 32 := by
  show (a.toBitVec <<< (s.toBitVec.smod 32).toNat).toNat = _
  rw [hs, BitVec.toNat_shiftLeft, Nat.shiftLeft_eq]
theorem pk_shlN {n : Nat} (s : Int32) (k : Nat) (hs : (s.toBitVec.smod 32).toNat = k) (h : n * 2 ^ k < 2 ^ 32) : nI n <<< s = nI (n * 2 ^ k) := by
  apply Int32.toBitVec_inj.mp
  apply BitVec.eq_of_toNat_eq
  have hn : n < 2 ^ 32 := Nat.lt_of_le_of_lt (Nat.le_mul_of_pos_right n (Nat.two_pow_pos k)) h
  rw [pk_shl _ _ k hs, pk_tn hn, pk_tn h, Nat.mod_eq_of_lt h]
theorem pk_shr (a s : Int32) (k : Nat) (hs : (s.toBitVec.smod 32).toNat = k) : (a >>> s).toInt = a.toInt >>> k := by
  show (a.toBitVec.sshiftRight (s.toBitVec.smod 32).toNat).toInt = _
  rw [hs, BitVec.toInt_sshiftRight]
  rfl
theorem pk_shrN {n : Nat} (h : n < 2 ^ 31) (s : Int32) (k : Nat) (hs : (s.toBitVec.smod 32).toNat = k) : nI n >>> s = nI (n / 2 ^ k) := by
  apply Int32.toInt_inj.mp
  have h2 : n / 2 ^ k ≤ n := Nat.div_le_self _ _
  rw [pk_shr _ _ k hs, nI_toInt h, nI_toInt (by omega), Int.shiftRight_eq_div_pow]
  rfl
theorem nx_and (a b : Nat) : nI a &&& nI b = nI (a &&& b) := by
  apply Int32.toBitVec_inj.1
  show BitVec.ofNat 32 a &&& BitVec.ofNat 32 b = BitVec.ofNat 32 (a &&& b)
  apply BitVec.eq_of_getLsbD_eq
  intro i hi
  simp [hi]
end
section
/-! the pure picture: masks, digits, folds; and the tables that tie them to the machine's numbers -/
def sl_go {α : Type} (f : Nat → α → α) : Nat → Nat → α → α
  | _, 0, a => a
  | i, k + 1, a => sl_go f (i + 1) k (f i a)
def sl_al (f : Nat → Bool) : Nat → Nat → Bool
  | _, 0 => true
  | i, k + 1 => f i && sl_al f (i + 1) k
def sl_an (f : Nat → Bool) : Nat → Nat → Bool
  | _, 0 => false
  | i, k + 1 => f i || sl_an f (i + 1) k
def sl_I (b : Bool) : Int32 := cond b 1 0
def sl_mk (v d : Nat) : Nat := d % 2 ^ v + d / 2 ^ v * 2 ^ (v + 1)
def sl_un (v p : Nat) : Nat := p % 2 ^ v + p / 2 ^ (v + 1) * 2 ^ v
def sl_b (p u : Nat) : Nat := p / 2 ^ u % 2
def sl_dg (s v : Nat) : Nat := s / 8 ^ (3 - v) % 8
def sl_mm (s v : Nat) : Nat := sl_mk v (sl_dg s v)
def sl_sz (p : Nat) : Nat := 0 + sl_b p 0 + sl_b p 1 + sl_b p 2 + sl_b p 3
def sl_sO (d0 d1 d2 d3 : Nat) : Nat := ((d0 * 8 + d1) * 8 + d2) * 8 + d3
def sl_pk (s : Nat) : Nat := sl_mm s 0 + 16 * sl_mm s 1 + 256 * sl_mm s 2 + 4096 * sl_mm s 3
def sl_ek (ek : Nat → Int32) (v p u : Nat) : Bool := !((sl_b p u == 1 && decide (ek (u * 4 + v) = 1)) || (sl_b p u == 0 && decide (ek (u * 4 + v) = 2)))
def sl_ok (mp : Int32) (ek : Nat → Int32) (v p : Nat) : Bool := decide (nI (sl_sz p) ≤ mp) && sl_al (sl_ek ek v p) 0 4
def sl_st (m : Nat → Nat) (v p : Nat) : Nat := if m v &&& (15 - p) = 0 then p ||| 2 ^ v else p
def sl_nc (m : Nat → Nat) : Bool := sl_go (fun _ p => sl_go (sl_st m) 0 4 p) 0 4 0 == 15
def sl_wo (sc : Nat → Int32) (s : Nat) : Int32 := 0 + sc (0 * 16 + sl_mm s 0) + sc (1 * 16 + sl_mm s 1) + sc (2 * 16 + sl_mm s 2) + sc (3 * 16 + sl_mm s 3)
theorem sl_c4 {P : Nat → Prop} (h0 : P 0) (h1 : P 1) (h2 : P 2) (h3 : P 3) {v : Nat} (hv : v < 4) : P v := by
  match v, hv with
  | 0, _ => exact h0
  | 1, _ => exact h1
  | 2, _ => exact h2
  | 3, _ => exact h3
theorem sl_b01 (p u : Nat) : sl_b p u = 0 ∨ sl_b p u = 1 := by
  unfold sl_b
  generalize p / 2 ^ u = z
  omega
theorem sl_tMk : ∀ v, v < 4 → ∀ d, d < 8 → sl_mk v d < 16 ∧ sl_b (sl_mk v d) v = 0 ∧ sl_un v (sl_mk v d) = d := by decide +kernel
theorem sl_tUn : ∀ v, v < 4 → ∀ p, p < 16 → sl_b p v = 0 → sl_un v p < 8 ∧ sl_mk v (sl_un v p) = p := by decide +kernel
theorem sl_tBitA : ∀ u, u < 4 → ∀ p, p < 16 → ((nI p &&& ((1 : Int32) <<< (nI u &&& 31))) = 0 ↔ sl_b p u = 0) := by decide +kernel
theorem sl_tBitS : ∀ u, u < 4 → ∀ p, p < 16 → ((nI p >>> (nI u &&& 31)) &&& 1) = nI (sl_b p u) := by decide +kernel
theorem sl_tMask : ∀ v, v < 4 → ∀ d, d < 8 → (nI d &&& (((1 : Int32) <<< (nI v &&& 31)) - 1)) ||| ((nI d >>> (nI v &&& 31)) <<< ((nI v + 1) &&& 31)) = nI (sl_mk v d) := by decide +kernel
theorem sl_tDigit : ∀ v, v < 4 → ∀ p, p < 16 → (nI p &&& (((1 : Int32) <<< (nI v &&& 31)) - 1)) ||| ((nI p >>> ((nI v + 1) &&& 31)) <<< (nI v &&& 31)) = nI (sl_un v p) := by decide +kernel
theorem sl_tBits : ∀ p, p < 16 → ((((nI p &&& 1) + ((nI p >>> ((1 : Int32) &&& 31)) &&& 1)) + ((nI p >>> ((2 : Int32) &&& 31)) &&& 1)) + ((nI p >>> ((3 : Int32) &&& 31)) &&& 1)) = nI (sl_sz p) := by decide +kernel
theorem sl_tSub : ∀ x, x < 16 → ∀ p, p < 16 → ((nI x &&& (nI p ^^^ (-1))) = 0 ↔ x &&& (15 - p) = 0) := by decide +kernel
theorem sl_tOr : ∀ p, p < 16 → ∀ v, v < 4 → nI p ||| ((1 : Int32) <<< (nI v &&& 31)) = nI (p ||| 2 ^ v) ∧ p ||| 2 ^ v < 16 := by decide +kernel
theorem sl_tSz : ∀ p, p < 16 → sl_sz p ≤ 4 := by decide +kernel
theorem sl_mm16 {s v : Nat} (hv : v < 4) : sl_mm s v < 16 := (sl_tMk v hv _ (Nat.mod_lt _ (by decide))).1
theorem sl_mmb {s v : Nat} (hv : v < 4) : sl_b (sl_mm s v) v = 0 := (sl_tMk v hv _ (Nat.mod_lt _ (by decide))).2.1
theorem sl_pk16 (s : Nat) : sl_pk s < 65536 := by
  have h0 := sl_mm16 (s := s) (v := 0) (by omega)
  have h1 := sl_mm16 (s := s) (v := 1) (by omega)
  have h2 := sl_mm16 (s := s) (v := 2) (by omega)
  have h3 := sl_mm16 (s := s) (v := 3) (by omega)
  unfold sl_pk
  omega
theorem sl_pI {st v : Nat} (hs : st < 65536) (hv : v < 4) : (nI st >>> ((4 * nI v) &&& 31)) &&& 15 = nI (st / 16 ^ v % 16) := by
  have h31 : st < 2 ^ 31 := by omega
  have hd : ∀ k, st / 2 ^ k < 2 ^ 32 := fun k => Nat.lt_of_le_of_lt (Nat.div_le_self _ _) (by omega)
  refine sl_c4 (P := fun v => (nI st >>> ((4 * nI v) &&& 31)) &&& 15 = nI (st / 16 ^ v % 16)) ?_ ?_ ?_ ?_ hv
  · rw [pk_shrN h31 _ 0 (by decide), pk_andN (hd 0) 4 (by decide)]
  · rw [pk_shrN h31 _ 4 (by decide), pk_andN (hd 4) 4 (by decide)]
  · rw [pk_shrN h31 _ 8 (by decide), pk_andN (hd 8) 4 (by decide)]
  · rw [pk_shrN h31 _ 12 (by decide), pk_andN (hd 12) 4 (by decide)]
theorem sl_pkD {p0 p1 p2 p3 v : Nat} (h0 : p0 < 16) (h1 : p1 < 16) (h2 : p2 < 16) (h3 : p3 < 16) (m : Nat → Nat) (e0 : m 0 = p0) (e1 : m 1 = p1) (e2 : m 2 = p2) (e3 : m 3 = p3) (hv : v < 4) : (p0 + 16 * p1 + 256 * p2 + 4096 * p3) / 16 ^ v % 16 = m v := by
  refine sl_c4 (P := fun v => (p0 + 16 * p1 + 256 * p2 + 4096 * p3) / 16 ^ v % 16 = m v) ?_ ?_ ?_ ?_ hv
  · show _ / 1 % 16 = _
    omega
  · show _ / 16 % 16 = _
    omega
  · show _ / 256 % 16 = _
    omega
  · show _ / 4096 % 16 = _
    omega
theorem sl_pIs {s v : Nat} (hv : v < 4) : (nI (sl_pk s) >>> ((4 * nI v) &&& 31)) &&& 15 = nI (sl_mm s v) := by
  rw [sl_pI (sl_pk16 s) hv]
  exact congrArg nI (sl_pkD (sl_mm16 (by omega)) (sl_mm16 (by omega)) (sl_mm16 (by omega)) (sl_mm16 (by omega)) (sl_mm s) rfl rfl rfl rfl hv)
theorem sl_dI {s v : Nat} (hs : s < 4096) (hv : v < 4) : (nI s >>> ((3 * (3 - nI v)) &&& 31)) &&& 7 = nI (sl_dg s v) := by
  have h31 : s < 2 ^ 31 := by omega
  have hd : ∀ k, s / 2 ^ k < 2 ^ 32 := fun k => Nat.lt_of_le_of_lt (Nat.div_le_self _ _) (by omega)
  refine sl_c4 (P := fun v => (nI s >>> ((3 * (3 - nI v)) &&& 31)) &&& 7 = nI (sl_dg s v)) ?_ ?_ ?_ ?_ hv
  · rw [pk_shrN h31 _ 9 (by decide), pk_andN (hd 9) 3 (by decide)]; rfl
  · rw [pk_shrN h31 _ 6 (by decide), pk_andN (hd 6) 3 (by decide)]; rfl
  · rw [pk_shrN h31 _ 3 (by decide), pk_andN (hd 3) 3 (by decide)]; rfl
  · rw [pk_shrN h31 _ 0 (by decide), pk_andN (hd 0) 3 (by decide)]; rfl
theorem sl_dg8 (s v : Nat) : sl_dg s v < 8 := Nat.mod_lt _ (by decide)
theorem sl_ix (v m : Nat) : nI v * 16 + nI m = nI (v * 16 + m) := by
  show nI v * nI 16 + nI m = _
  rw [pk_mul, nI_add]
theorem sl_ix8 (v m : Nat) : nI v * 8 + nI m = nI (v * 8 + m) := by
  show nI v * nI 8 + nI m = _
  rw [pk_mul, nI_add]
theorem sl_ix4 (v m : Nat) : nI v * 4 + nI m = nI (v * 4 + m) := by
  show nI v * nI 4 + nI m = _
  rw [pk_mul, nI_add]
theorem sl_go_app {α : Type} (f : Nat → α → α) : ∀ (k l i : Nat) (a : α), sl_go f i (k + l) a = sl_go f (i + k) l (sl_go f i k a) := by
  intro k
  induction k with
  | zero => intro l i a; rw [Nat.zero_add]; rfl
  | succ k ih =>
    intro l i a
    rw [Nat.succ_add]
    show sl_go f (i + 1) (k + l) (f i a) = sl_go f (i + (k + 1)) l (sl_go f (i + 1) k (f i a))
    rw [ih, show i + (k + 1) = i + 1 + k from by omega]
theorem sl_go_congr {α : Type} (f g : Nat → α → α) : ∀ (k i : Nat) (a : α), (∀ j, i ≤ j → j < i + k → ∀ q, f j q = g j q) → sl_go f i k a = sl_go g i k a := by
  intro k
  induction k with
  | zero => intro i a _; rfl
  | succ k ih =>
    intro i a h
    show sl_go f (i + 1) k (f i a) = sl_go g (i + 1) k (g i a)
    rw [h i (by omega) (by omega), ih _ _ (fun j h1 h2 => h j (by omega) (by omega))]
theorem sl_go_sh {α : Type} (f : Nat → α → α) (c : Nat) : ∀ (k i : Nat) (a : α), sl_go f (c + i) k a = sl_go (fun j => f (c + j)) i k a := by
  intro k
  induction k with
  | zero => intro i a; rfl
  | succ k ih =>
    intro i a
    show sl_go f (c + i + 1) k (f (c + i) a) = _
    rw [show c + i + 1 = c + (i + 1) from by omega, ih]
    rfl
theorem sl_go_id {α : Type} (f : Nat → α → α) : ∀ (k i : Nat) (a : α), (∀ j, i ≤ j → j < i + k → ∀ q, f j q = q) → sl_go f i k a = a := by
  intro k
  induction k with
  | zero => intro i a _; rfl
  | succ k ih =>
    intro i a h
    show sl_go f (i + 1) k (f i a) = a
    rw [h i (by omega) (by omega), ih _ _ (fun j h1 h2 => h j (by omega) (by omega))]
theorem sl_go_mul {α : Type} (f : Nat → α → α) (b : Nat) : ∀ (k i : Nat) (a : α), sl_go f (i * b) (k * b) a = sl_go (fun j q => sl_go (fun l q => f (j * b + l) q) 0 b q) i k a := by
  intro k
  induction k with
  | zero => intro i a; rw [Nat.zero_mul]; rfl
  | succ k ih =>
    intro i a
    show _ = sl_go _ (i + 1) k (sl_go (fun l q => f (i * b + l) q) 0 b a)
    rw [← ih, Nat.succ_mul, Nat.add_comm (k * b) b, sl_go_app, Nat.succ_mul, ← sl_go_sh f (i * b) b 0 a]
    rfl
theorem sl_al_iff (f : Nat → Bool) : ∀ k i, sl_al f i k = true ↔ ∀ j, i ≤ j → j < i + k → f j = true := by
  intro k
  induction k with
  | zero => intro i; exact ⟨fun _ j h1 h2 => by omega, fun _ => rfl⟩
  | succ k ih =>
    intro i
    show (f i && sl_al f (i + 1) k) = true ↔ _
    rw [Bool.and_eq_true, ih]
    constructor
    · intro h j h1 h2
      by_cases e : j = i
      · rw [e]; exact h.1
      · exact h.2 j (by omega) (by omega)
    · intro h
      exact ⟨h i (by omega) (by omega), fun j h1 h2 => h j (by omega) (by omega)⟩
theorem sl_an_iff (f : Nat → Bool) : ∀ k i, sl_an f i k = true ↔ ∃ j, i ≤ j ∧ j < i + k ∧ f j = true := by
  intro k
  induction k with
  | zero => intro i; exact ⟨fun h => (Bool.false_ne_true h).elim, fun ⟨j, h1, h2, _⟩ => by omega⟩
  | succ k ih =>
    intro i
    show (f i || sl_an f (i + 1) k) = true ↔ _
    rw [Bool.or_eq_true, ih]
    constructor
    · intro h
      rcases h with h | ⟨j, h1, h2, h3⟩
      · exact ⟨i, by omega, by omega, h⟩
      · exact ⟨j, by omega, by omega, h3⟩
    · intro ⟨j, h1, h2, h3⟩
      by_cases e : j = i
      · left; rw [← e]; exact h3
      · right; exact ⟨j, by omega, by omega, h3⟩
end
section
/-! small methods: each walk against its value, with a general post -/
theorem sl_ivT {post : Int32 → Prop} {v : Nat} (h : v < 4) (hp : post 1) : wpX_isVariable post (nI v) :=
  br_f (nI_pos (by omega)) (br_f (nI_ge (b := 4) h (by decide)) hp)
theorem sl_ivF {post : Int32 → Prop} {x : Int32} (h : x < 0 ∨ nI 4 ≤ x) (hp : post 0) : wpX_isVariable post x :=
  br_c (fun _ => hp) (fun h0 => br_t (h.resolve_left h0) hp)
theorem sl_bdT {post : Int32 → Prop} {u : SY} {v : Nat} (h : v < 4) (hp : post 0) : wpY_bad post u (nI v) := by
  obtain ⟨l, k, m, f, a, b, c⟩ := u
  exact br_f (nI_pos (by omega)) (br_t (nI_le (b := 3) (by omega) (by decide)) hp)
theorem sl_n43 {x : Int32} (h : nI 4 ≤ x) : ¬ x ≤ 3 := by
  intro h3
  exact absurd (Int32.le_trans h h3) (by decide)
theorem sl_bdF {post : Int32 → Prop} {u : SY} {x : Int32} (h : x < 0 ∨ nI 4 ≤ x) (hp : post 1) : wpY_bad post u x := by
  obtain ⟨l, k, m, f, a, b, c⟩ := u
  exact br_c (fun _ => hp) (fun h0 => br_f (sl_n43 (h.resolve_left h0)) hp)
theorem sl_imT {post : Int32 → Prop} {v p : Nat} (hv : v < 4) (hp : p < 16) (hb : sl_b p v = 0) (h : post 1) : wpX_isMaskOfOthers post (nI v) (nI p) :=
  br_f (nI_pos (by omega)) (br_f (nI_ge (b := 16) hp (by decide)) (br_t ((sl_tBitA v hv p hp).mpr hb) h))
theorem sl_imF {post : Int32 → Prop} {v p : Nat} (hv : v < 4) (hp : p < 16) (hb : sl_b p v = 1) (h : post 0) : wpX_isMaskOfOthers post (nI v) (nI p) :=
  br_f (nI_pos (by omega)) (br_f (nI_ge (b := 16) hp (by decide)) (br_f (fun z => by have := (sl_tBitA v hv p hp).mp z; omega) h))
theorem sl_imO {post : Int32 → Prop} {x y : Int32} (hy : y < 0 ∨ nI 16 ≤ y) (h : post 0) : wpX_isMaskOfOthers post x y :=
  br_c (fun _ => h) (fun h0 => br_t (hy.resolve_left h0) h)
theorem sl_bmT {post : Int32 → Prop} {u : SY} {v p : Nat} (hv : v < 4) (hp : p < 16) (hb : sl_b p v = 0) (h : post 0) : wpY_badMask post u (nI v) (nI p) := by
  obtain ⟨l, k, m, f, a, b, c⟩ := u
  exact br_f (nI_pos (by omega)) (br_f (fun z => absurd z (nI_nlt (a := 15) (b := p) (by omega) (by omega))) (br_f (by rw [sl_tBitS v hv p hp, hb]; decide) h)) 
theorem sl_bmF {post : Int32 → Prop} {u : SY} {v p : Nat} (hv : v < 4) (hp : p < 16) (hb : sl_b p v = 1) (h : post 1) : wpY_badMask post u (nI v) (nI p) := by
  obtain ⟨l, k, m, f, a, b, c⟩ := u
  exact br_f (nI_pos (by omega)) (br_f (fun z => absurd z (nI_nlt (a := 15) (b := p) (by omega) (by omega))) (br_t (by rw [sl_tBitS v hv p hp, hb]; decide) h))
theorem sl_lt16 {y : Int32} (h : nI 16 ≤ y) : 15 < y := Int32.lt_of_lt_of_le (by decide) h
theorem sl_bmO {post : Int32 → Prop} {u : SY} {x y : Int32} (hy : y < 0 ∨ nI 16 ≤ y) (h : post 1) : wpY_badMask post u x y := by
  obtain ⟨l, k, m, f, a, b, c⟩ := u
  exact br_c (fun _ => h) (fun h0 => br_t (sl_lt16 (hy.resolve_left h0)) h)
theorem sl_szS {post : Int32 → Prop} {p u a n : Nat} (hp : p < 16) (hu : u < 4) (h : wX_sizeOf_4 post (nI p) n (nI (a + sl_b p u)) (nI (u + 1))) : wX_sizeOf_4 post (nI p) (n + 1) (nI a) (nI u) :=
  br_f (nI_ge (b := 4) hu (by decide)) (nm_r (by rw [sl_tBitS u hu p hp, nI_add]) (nm_r (nI_1 u) h))
theorem sl_size {post : Int32 → Prop} {p : Nat} (hp : p < 16) (h : post (nI (sl_sz p))) : wpX_sizeOf post (nI p) :=
  ⟨5, sl_szS hp (by decide) (sl_szS hp (by decide) (sl_szS hp (by decide) (sl_szS hp (by decide) (br_t (nI_le (a := 4) (b := 4) (by decide) (by decide)) h))))⟩
theorem sl_bits {post : Int32 → Prop} {u : SY} {p : Nat} (hp : p < 16) (h : post (nI (sl_sz p))) : wpY_bits post u (nI p) := by
  obtain ⟨l, k, m, f, a, b, c⟩ := u
  show post _
  rw [sl_tBits p hp]
  exact h
theorem sl_con0 {post : Int32 → Prop} {p u : Nat} (hp : p < 16) (hu : u < 4) (hb : sl_b p u = 0) (h : post 0) : wpX_contains post (nI p) (nI u) :=
  br_t ((sl_tBitA u hu p hp).mpr hb) h
theorem sl_con1 {post : Int32 → Prop} {p u : Nat} (hp : p < 16) (hu : u < 4) (hb : sl_b p u = 1) (h : post 1) : wpX_contains post (nI p) (nI u) :=
  br_f (fun z => by have := (sl_tBitA u hu p hp).mp z; omega) h
theorem sl_ekAt (ek : Nat → Int32) {u v : Nat} (hu : u < 4) (hv : v < 4) : ek (nI u * 4 + nI v).toNatClampNeg = ek (u * 4 + v) := by
  rw [sl_ix4, nI_clamp (by omega)]
theorem sl_ekIn {u v : Nat} (hu : u < 4) (hv : v < 4) : vp_in (nI u * 4 + nI v) 16 := by
  rw [sl_ix4]
  exact vp_in_nI (by omega) (by decide)
theorem sl_isAl {post : Int32 → Prop} {v p : Nat} (mp : Int32) (sc ek : Nat → Int32) (hv : v < 4) (hp : p < 16) : ∀ k u, u + k = 4 → post (sl_I (sl_al (sl_ek ek v p) u k)) → wX_isAllowed_23 post (nI v) (nI p) mp sc ek (k + 1) (nI u) := by
  intro k
  induction k with
  | zero =>
    intro u hu h
    exact br_t (nI_le (a := 4) (by omega) (by omega)) h
  | succ k ih =>
    intro u hu h
    have hu4 : u < 4 := by omega
    have hr := ih (u + 1) (by omega)
    have h' : post (sl_I (sl_ek ek v p u && sl_al (sl_ek ek v p) (u + 1) k)) := h
    refine br_f (nI_ge (b := 4) hu4 (by decide)) ⟨sl_ekIn hu4 hv, nm_r (sl_ekAt ek hu4 hv) ?_⟩
    rcases sl_b01 p u with hb | hb
    · refine sl_con0 hp hu4 hb (br_t rfl (br_t rfl ?_))
      by_cases h2 : ek (u * 4 + v) = 2
      · refine br_t h2 ?_
        have e : sl_ek ek v p u = false := by simp [sl_ek, hb, h2]
        rw [e] at h'
        exact h'
      · refine br_f h2 (nm_r (nI_1 u) (hr ?_))
        have e : sl_ek ek v p u = true := by simp [sl_ek, hb, h2]
        rw [e] at h'
        exact h'
    · refine sl_con1 hp hu4 hb (br_f (by decide) ?_)
      by_cases h1 : ek (u * 4 + v) = 1
      · refine br_t h1 ?_
        have e : sl_ek ek v p u = false := by simp [sl_ek, hb, h1]
        rw [e] at h'
        exact h'
      · refine br_f h1 (br_f (by decide) (nm_r (nI_1 u) (hr ?_)))
        have e : sl_ek ek v p u = true := by simp [sl_ek, hb, h1]
        rw [e] at h'
        exact h'
def sl_ax (mp : Int32) (ek : Nat → Int32) (v p : Nat) : Bool := (sl_b p v == 0) && sl_ok mp ek v p
theorem sl_isA {post : Int32 → Prop} {v p : Nat} (mp : Int32) (sc ek : Nat → Int32) (hv : v < 4) (hp : p < 16) (h : post (sl_I (sl_ax mp ek v p))) : wpX_isAllowed post (mp, sc, ek) (nI v) (nI p) := by
  unfold wpX_isAllowed
  dsimp only
  unfold sl_ax sl_ok at h
  rcases sl_b01 p v with hb | hb
  · refine sl_imT hv hp hb (br_f (by decide) (sl_size hp ?_))
    rw [hb] at h
    by_cases hl : nI (sl_sz p) ≤ mp
    · rw [decide_eq_true hl] at h
      exact br_t hl ⟨5, sl_isAl mp sc ek hv hp 4 0 rfl h⟩
    · rw [decide_eq_false hl] at h
      exact br_f hl h
  · refine sl_imF hv hp hb (br_t rfl ?_)
    rw [hb] at h
    exact h
theorem sl_wIn {v m : Nat} (hv : v < 4) (hm : m < 16) : vp_in (nI v * 16 + nI m) 64 := by
  rw [sl_ix]
  exact vp_in_nI (by omega) (by decide)
theorem sl_wAt (sc : Nat → Int32) {v m : Nat} (hv : v < 4) (hm : m < 16) : sc (nI v * 16 + nI m).toNatClampNeg = sc (v * 16 + m) := by
  rw [sl_ix, nI_clamp (by omega)]
theorem sl_woS {post : Int32 → Prop} {s v n : Nat} {a mp : Int32} {sc ek : Nat → Int32} (hv : v < 4) (h : wX_worthOf_12 post (nI (sl_pk s)) mp sc ek n (a + sc (v * 16 + sl_mm s v)) (nI (v + 1))) : wX_worthOf_12 post (nI (sl_pk s)) mp sc ek (n + 1) a (nI v) := by
  refine br_f (nI_ge (b := 4) hv (by decide)) ?_
  unfold wpX_parentsIn
  rw [sl_pIs hv]
  exact ⟨sl_wIn hv (sl_mm16 hv), nm_r (by rw [sl_wAt sc hv (sl_mm16 hv)]) (nm_r (nI_1 v) h)⟩
theorem sl_pkN (s : Nat) : ¬ nI (sl_pk s) = -1 := by
  intro h
  have hs := sl_pk16 s
  have := congrArg Int32.toInt h
  rw [nI_toInt (by omega)] at this
  have e : (-1 : Int32).toInt = -1 := by decide
  omega
theorem sl_woX {post : Int32 → Prop} {s : Nat} {mp : Int32} {sc ek : Nat → Int32} (h : post (sl_wo sc s)) : wpX_worthOf post (mp, sc, ek) (nI (sl_pk s)) :=
  br_f (sl_pkN s) ⟨5, sl_woS (v := 0) (by decide) (sl_woS (v := 1) (by decide) (sl_woS (v := 2) (by decide) (sl_woS (v := 3) (by decide) (br_t (nI_le (a := 4) (b := 4) (by decide) (by decide)) h))))⟩
theorem sl_woN {post : Int32 → Prop} {mp : Int32} {sc ek : Nat → Int32} (h : post (-100000)) : wpX_worthOf post (mp, sc, ek) (-1) := br_t rfl h
theorem sl_stLt {m : Nat → Nat} {v p : Nat} (hv : v < 4) (hp : p < 16) : sl_st m v p < 16 := by
  unfold sl_st
  split
  · exact (sl_tOr p hp v hv).2
  · exact hp
theorem sl_goLt {m : Nat → Nat} : ∀ k v p, v + k ≤ 4 → p < 16 → sl_go (sl_st m) v k p < 16 := by
  intro k
  induction k with
  | zero => intro v p _ hp; exact hp
  | succ k ih => intro v p hv hp; exact ih (v + 1) _ (by omega) (sl_stLt (by omega) hp)
theorem sl_ncI {post : Int32 → Prop} {J : Int32 → Int32 → Prop} {m : Nat → Nat} {x y : Int32} (hm : ∀ v, v < 4 → m v < 16) (hx : ∀ v, v < 4 → (x >>> ((4 * nI v) &&& 31)) &&& 15 = nI (m v)) : ∀ k v p, v + k = 4 → p < 16 → J (nI (sl_go (sl_st m) v k p)) (y + 1) → wX_hasNoCircle_11 post J x y (k + 1) (nI p) (nI v) := by
  intro k
  induction k with
  | zero =>
    intro v p hv hp h
    exact br_t (nI_le (a := 4) (by omega) (by omega)) (nm_e h)
  | succ k ih =>
    intro v p hv hp h
    have hv4 : v < 4 := by omega
    refine br_f (nI_ge (b := 4) hv4 (by decide)) ?_
    unfold wpX_parentsIn
    rw [hx v hv4]
    have h' : J (nI (sl_go (sl_st m) (v + 1) k (sl_st m v p))) (y + 1) := h
    by_cases hs : m v &&& (15 - p) = 0
    · refine br_t ((sl_tSub _ (hm v hv4) p hp).mpr hs) (nm_r (sl_tOr p hp v hv4).1 (nm_r (nI_1 v) ?_))
      have e : sl_st m v p = p ||| 2 ^ v := if_pos hs
      rw [e] at h'
      exact ih (v + 1) _ (by omega) (sl_tOr p hp v hv4).2 h'
    · refine br_f (fun z => hs ((sl_tSub _ (hm v hv4) p hp).mp z)) (nm_r (nI_1 v) ?_)
      have e : sl_st m v p = p := if_neg hs
      rw [e] at h'
      exact ih (v + 1) _ (by omega) hp h'
theorem sl_ncO {post : Int32 → Prop} {m : Nat → Nat} {x : Int32} (hm : ∀ v, v < 4 → m v < 16) (hx : ∀ v, v < 4 → (x >>> ((4 * nI v) &&& 31)) &&& 15 = nI (m v)) : ∀ k r p, r + k = 4 → p < 16 → post (sl_I (sl_go (fun _ p => sl_go (sl_st m) 0 4 p) r k p == 15)) → wX_hasNoCircle_4 post x (k + 1) (nI p) (nI r) := by
  intro k
  induction k with
  | zero =>
    intro r p hr hp h
    refine br_t (nI_le (a := 4) (by omega) (by omega)) ?_
    have h' : post (sl_I (p == 15)) := h
    refine pk_eq p 15 (fun e => ?_) (fun e => ?_)
    · rw [beq_iff_eq.mpr e] at h'; exact h'
    · rw [beq_eq_false_iff_ne.mpr e] at h'; exact h'
  | succ k ih =>
    intro r p hr hp h
    refine br_f (nI_ge (b := 4) (by omega) (by decide)) ⟨5, sl_ncI hm hx 4 0 p rfl hp ?_⟩
    rw [nI_1]
    exact ih (r + 1) _ (by omega) (sl_goLt 4 0 p (by omega) hp) h
theorem sl_ncX {post : Int32 → Prop} {m : Nat → Nat} {x : Int32} (hm : ∀ v, v < 4 → m v < 16) (hx : ∀ v, v < 4 → (x >>> ((4 * nI v) &&& 31)) &&& 15 = nI (m v)) (h : post (sl_I (sl_nc m))) : wpX_hasNoCircle post x :=
  ⟨5, sl_ncO hm hx 4 0 0 rfl (by decide) h⟩
end
section
/-! the reference's private methods -/
theorem sl_mask {post : Int32 → Prop} {u : SY} {v d : Nat} (hv : v < 4) (hd : d < 8) (h : post (nI (sl_mk v d))) : wpY_mask post u (nI v) (nI d) := by
  obtain ⟨l, k, m, f, a, b, c⟩ := u
  refine nm_e ?_
  rw [sl_tMask v hv d hd]
  exact h
theorem sl_digit {post : Int32 → Prop} {u : SY} {v p : Nat} (hv : v < 4) (hp : p < 16) (h : post (nI (sl_un v p))) : wpY_digit post u (nI v) (nI p) := by
  obtain ⟨l, k, m, f, a, b, c⟩ := u
  refine nm_e ?_
  rw [sl_tDigit v hv p hp]
  exact h
theorem sl_digO {post : Int32 → Prop} {u : SY} {s v : Nat} (hs : s < 4096) (hv : v < 4) (h : post (nI (sl_dg s v))) : wpY_digitOf post u (nI s) (nI v) := by
  obtain ⟨l, k, m, f, a, b, c⟩ := u
  unfold wpY_digitOf
  dsimp only
  rw [sl_dI hs hv]
  exact h
theorem sl_parO {post : Int32 → Prop} {u : SY} {s v : Nat} (hs : s < 4096) (hv : v < 4) (h : post (nI (sl_mm s v))) : wpY_parentsOf post u (nI s) (nI v) := by
  obtain ⟨l, k, m, f, a, b, c⟩ := u
  unfold wpY_parentsOf
  dsimp only
  exact sl_digO hs hv (sl_mask hv (sl_dg8 s v) h)
theorem sl_hcI {post : Int32 → Prop} {J : Int32 → Int32 → Prop} {s : Nat} {y : Int32} {l k0 m0 f : Int32} {a b c : Nat → Int32} (hs : s < 4096) : ∀ k v p, v + k = 4 → p < 16 → J (nI (sl_go (sl_st (sl_mm s)) v k p)) (y + 1) → wY_hasCircle_12 post J (nI s) y l k0 m0 f a b c (k + 1) (nI p) (nI v) := by
  intro k
  induction k with
  | zero =>
    intro v p hv hp h
    exact br_t (nI_le (a := 4) (by omega) (by omega)) (nm_e h)
  | succ k ih =>
    intro v p hv hp h
    have hv4 : v < 4 := by omega
    have hm : sl_mm s v < 16 := sl_mm16 hv4
    refine br_f (nI_ge (b := 4) hv4 (by decide)) (sl_parO hs hv4 ?_)
    have h' : J (nI (sl_go (sl_st (sl_mm s)) (v + 1) k (sl_st (sl_mm s) v p))) (y + 1) := h
    by_cases hz : sl_mm s v &&& (15 - p) = 0
    · refine br_t ((sl_tSub _ hm p hp).mpr hz) (nm_r (sl_tOr p hp v hv4).1 (nm_r (nI_1 v) ?_))
      have e : sl_st (sl_mm s) v p = p ||| 2 ^ v := if_pos hz
      rw [e] at h'
      exact ih (v + 1) _ (by omega) (sl_tOr p hp v hv4).2 h'
    · refine br_f (fun z => hz ((sl_tSub _ hm p hp).mp z)) (nm_r (nI_1 v) ?_)
      have e : sl_st (sl_mm s) v p = p := if_neg hz
      rw [e] at h'
      exact ih (v + 1) _ (by omega) hp h'
theorem sl_hcO {post : Int32 → Prop} {s : Nat} {l k0 m0 f : Int32} {a b c : Nat → Int32} (hs : s < 4096) : ∀ k r p, r + k = 4 → p < 16 → post (sl_I (!(sl_go (fun _ p => sl_go (sl_st (sl_mm s)) 0 4 p) r k p == 15))) → wY_hasCircle_4 post (nI s) l k0 m0 f a b c (k + 1) (nI p) (nI r) := by
  intro k
  induction k with
  | zero =>
    intro r p hr hp h
    refine br_t (nI_le (a := 4) (by omega) (by omega)) ?_
    have h' : post (sl_I (!(p == 15))) := h
    refine pk_eq p 15 (fun e => ?_) (fun e => ?_)
    · rw [beq_iff_eq.mpr e] at h'; exact h'
    · rw [beq_eq_false_iff_ne.mpr e] at h'; exact h'
  | succ k ih =>
    intro r p hr hp h
    refine br_f (nI_ge (b := 4) (by omega) (by decide)) ⟨5, sl_hcI hs 4 0 p rfl hp ?_⟩
    rw [nI_1]
    exact ih (r + 1) _ (by omega) (sl_goLt 4 0 p (by omega) hp) h
theorem sl_hc {post : Int32 → Prop} {u : SY} {s : Nat} (hs : s < 4096) (h : post (sl_I (!(sl_nc (sl_mm s))))) : wpY_hasCircle post u (nI s) := by
  obtain ⟨l, k, m, f, a, b, c⟩ := u
  exact ⟨5, sl_hcO hs 4 0 0 rfl (by decide) h⟩
theorem sl_nar1 : vp_nar .boolean 1 = 1 := by rfl
theorem sl_nar0 : vp_nar .boolean 0 = 0 := by rfl
def sl_nT (c : Nat → Int32) : Prop := ∀ s, s < 4096 → c s = sl_I (sl_nc (sl_mm s))
theorem sl_iniL {post : SY → Prop} {l k0 m0 f : Int32} {a b : Nat → Int32} (h : ∀ c, sl_nT c → post (l, k0, m0, f, a, b, c)) : ∀ k s c, s + k = 4096 → (∀ t, t < s → c t = sl_I (sl_nc (sl_mm t))) → wY_init_36 post l k0 m0 f (k + 1) (nI s) a b c := by
  intro k
  induction k with
  | zero =>
    intro s c hs hc
    exact br_t (nI_le (a := 4096) (by omega) (by omega)) (h c (fun t ht => hc t (by omega)))
  | succ k ih =>
    intro s c hs hc
    have h4 : s < 4096 := by omega
    have key : ∀ x, x = sl_I (sl_nc (sl_mm s)) → ∀ t, t < s + 1 → upd c (nI s).toNatClampNeg x t = sl_I (sl_nc (sl_mm t)) := by
      intro x hx t ht
      rw [nI_clamp (by omega)]
      by_cases e : t = s
      · subst e; rw [pk_us]; exact hx
      · rw [pk_un e]; exact hc t (by omega)
    refine br_f (nI_ge (b := 4096) h4 (by decide)) (sl_hc h4 ?_)
    cases hn : sl_nc (sl_mm s)
    · refine br_f (by decide) ⟨vp_in_nI h4 (by decide), nm_e (nm_r (nI_1 s) (ih (s + 1) _ (by omega) (key _ ?_)))⟩
      rw [hn]; rfl
    · refine br_t rfl ⟨vp_in_nI h4 (by decide), nm_e (nm_r (nI_1 s) (ih (s + 1) _ (by omega) (key _ ?_)))⟩
      rw [hn]; rfl
def sl_sT (sX sY : Nat → Int32) : Prop := ∀ v, v < 4 → ∀ d, d < 8 → sY (v * 8 + d) = sX (v * 16 + sl_mk v d)
theorem sl_yIn {v d : Nat} (hv : v < 4) (hd : d < 8) : vp_in (nI v * 8 + nI d) 32 := by
  rw [sl_ix8]
  exact vp_in_nI (by omega) (by decide)
theorem sl_yAt (sY : Nat → Int32) {v d : Nat} (hv : v < 4) (hd : d < 8) : sY (nI v * 8 + nI d).toNatClampNeg = sY (v * 8 + d) := by
  rw [sl_ix8, nI_clamp (by omega)]
theorem sl_wyS {post : Int32 → Prop} {s v n : Nat} {z l k0 m0 f : Int32} {sX a b c : Nat → Int32} (hT : sl_sT sX a) (hs : s < 4096) (hv : v < 4) (h : wY_worth_4 post (nI s) l k0 m0 f a b c n (z + sX (v * 16 + sl_mm s v)) (nI (v + 1))) : wY_worth_4 post (nI s) l k0 m0 f a b c (n + 1) z (nI v) := by
  refine br_f (nI_ge (b := 4) hv (by decide)) (sl_digO hs hv ?_)
  exact ⟨sl_yIn hv (sl_dg8 s v), nm_r (by rw [sl_yAt a hv (sl_dg8 s v), hT v hv _ (sl_dg8 s v)]; rfl) (nm_r (nI_1 v) h)⟩
theorem sl_woY {post : Int32 → Prop} {s : Nat} {l k0 m0 f : Int32} {sX a b c : Nat → Int32} (hT : sl_sT sX a) (hs : s < 4096) (h : post (sl_wo sX s)) : wpY_worth post (l, k0, m0, f, a, b, c) (nI s) :=
  ⟨5, sl_wyS (v := 0) hT hs (by decide) (sl_wyS (v := 1) hT hs (by decide) (sl_wyS (v := 2) hT hs (by decide) (sl_wyS (v := 3) hT hs (by decide) (br_t (nI_le (a := 4) (b := 4) (by decide) (by decide)) h))))⟩
theorem sl_ayI {post : Int32 → Prop} {J : Int32 → Prop} {x : Int32} {v p : Nat} {l k0 m0 f : Int32} {a b c : Nat → Int32} (hv : v < 4) (hp : p < 16) : ∀ k u, u + k = 4 → (sl_al (sl_ek b v p) u k = true → J (nI (v + 1))) → (sl_al (sl_ek b v p) u k = false → post 0) → wY_allowed_42 post J x (nI v) (nI p) l k0 m0 f a b c (k + 1) (nI u) := by
  intro k
  induction k with
  | zero =>
    intro u hu h _
    exact br_t (nI_le (a := 4) (by omega) (by omega)) (nm_r (nI_1 v) (h rfl))
  | succ k ih =>
    intro u hu h g
    have hu4 : u < 4 := by omega
    have hr := ih (u + 1) (by omega)
    have h' : (sl_ek b v p u && sl_al (sl_ek b v p) (u + 1) k) = true → J (nI (v + 1)) := h
    have g' : (sl_ek b v p u && sl_al (sl_ek b v p) (u + 1) k) = false → post 0 := g
    refine br_f (nI_ge (b := 4) hu4 (by decide)) (nm_r (sl_tBitS u hu4 p hp) ⟨sl_ekIn hu4 hv, ?_⟩)
    rw [sl_ekAt b hu4 hv]
    unfold wY_allowed_77
    rw [sl_ekAt b hu4 hv]
    rcases sl_b01 p u with hb | hb
    · rw [hb]
      by_cases h2 : b (u * 4 + v) = 2
      · have e : sl_ek b v p u = false := by simp [sl_ek, hb, h2]
        rw [e] at g'
        exact br_f (by rw [h2]; decide) ⟨sl_ekIn hu4 hv, br_t h2 (br_t rfl (g' rfl))⟩
      · have e : sl_ek b v p u = true := by simp [sl_ek, hb, h2]
        rw [e] at h' g'
        exact br_c (fun _ => br_f (by decide) ⟨sl_ekIn hu4 hv, br_f h2 (nm_r (nI_1 u) (hr h' g'))⟩) (fun _ => ⟨sl_ekIn hu4 hv, br_f h2 (nm_r (nI_1 u) (hr h' g'))⟩)
    · rw [hb]
      by_cases h1 : b (u * 4 + v) = 1
      · have e : sl_ek b v p u = false := by simp [sl_ek, hb, h1]
        rw [e] at g'
        exact br_t h1 (br_t rfl (g' rfl))
      · have e : sl_ek b v p u = true := by simp [sl_ek, hb, h1]
        rw [e] at h' g'
        exact br_f h1 ⟨sl_ekIn hu4 hv, br_c (fun _ => br_f (by decide) (nm_r (nI_1 u) (hr h' g'))) (fun _ => nm_r (nI_1 u) (hr h' g'))⟩
theorem sl_ayO {post : Int32 → Prop} {s : Nat} {l k0 m0 f : Int32} {a b c : Nat → Int32} (hs : s < 4096) : ∀ k v, v + k = 4 → post (sl_I (sl_al (fun v => sl_ok l b v (sl_mm s v)) v k)) → wY_allowed_13 post (nI s) l k0 m0 f a b c (k + 1) (nI v) := by
  intro k
  induction k with
  | zero =>
    intro v hv h
    exact br_t (nI_le (a := 4) (by omega) (by omega)) h
  | succ k ih =>
    intro v hv h
    have hv4 : v < 4 := by omega
    have hm : sl_mm s v < 16 := sl_mm16 hv4
    have h' : post (sl_I (sl_ok l b v (sl_mm s v) && sl_al (fun v => sl_ok l b v (sl_mm s v)) (v + 1) k)) := h
    refine br_f (nI_ge (b := 4) hv4 (by decide)) (sl_parO hs hv4 (sl_bits hm ?_))
    by_cases hl : nI (sl_sz (sl_mm s v)) ≤ l
    · refine br_t hl ⟨5, sl_ayI hv4 hm 4 0 rfl (fun e => ?_) (fun e => ?_)⟩
      · have e2 : sl_ok l b v (sl_mm s v) = true := by unfold sl_ok; rw [e, decide_eq_true hl]; rfl
        rw [e2] at h'
        exact ih (v + 1) (by omega) h'
      · have e2 : sl_ok l b v (sl_mm s v) = false := by unfold sl_ok; rw [e, Bool.and_false]
        rw [e2] at h'
        exact h'
    · have e2 : sl_ok l b v (sl_mm s v) = false := by unfold sl_ok; rw [decide_eq_false hl]; rfl
      rw [e2] at h'
      exact br_f hl h'
def sl_aw (mp : Int32) (ek : Nat → Int32) (s : Nat) : Bool := sl_nc (sl_mm s) && sl_al (fun v => sl_ok mp ek v (sl_mm s v)) 0 4
theorem sl_awY {post : Int32 → Prop} {s : Nat} {l k0 m0 f : Int32} {a b c : Nat → Int32} (hc : sl_nT c) (hs : s < 4096) (h : post (sl_I (sl_aw l b s))) : wpY_allowed post (l, k0, m0, f, a, b, c) (nI s) := by
  refine ⟨vp_in_nI hs (by decide), ?_⟩
  rw [nI_clamp (by omega), hc s hs]
  unfold sl_aw at h
  cases hn : sl_nc (sl_mm s)
  · rw [hn] at h
    exact br_t rfl h
  · rw [hn] at h
    exact br_f (by decide) ⟨5, sl_ayO hs 4 0 rfl h⟩
end
section
/-! the search: the fold over 4096 structures, the reference's loops, the component's four loops -/
def sl_wq (sc : Nat → Int32) : Option Nat → Int32
  | none => -100000
  | some s => sl_wo sc s
def sl_kp : Option Nat → Int32
  | none => -1
  | some s => nI (sl_pk s)
def sl_fq : Option Nat → Nat
  | none => 0
  | some s => s
def sl_sp (mp : Int32) (sc ek : Nat → Int32) (P : Nat → Bool) (s : Nat) (q : Option Nat) : Option Nat :=
  if (P s && (sl_aw mp ek s && decide (¬ sl_wo sc s ≤ sl_wq sc q))) = true then some s else q
def sl_MF (mp : Int32) (sc ek : Nat → Int32) (P : Nat → Bool) : Option Nat := sl_go (sl_sp mp sc ek P) 0 4096 none
theorem sl_spT {mp : Int32} {sc ek : Nat → Int32} {P : Nat → Bool} {s : Nat} {q : Option Nat} (h1 : P s = true) (h2 : sl_aw mp ek s = true) (h3 : ¬ sl_wo sc s ≤ sl_wq sc q) : sl_sp mp sc ek P s q = some s := by
  unfold sl_sp
  rw [h1, h2, decide_eq_true h3]
  rfl
theorem sl_spP {mp : Int32} {sc ek : Nat → Int32} {P : Nat → Bool} {s : Nat} {q : Option Nat} (h1 : P s = false) : sl_sp mp sc ek P s q = q := by
  unfold sl_sp
  rw [h1]
  rfl
theorem sl_spA {mp : Int32} {sc ek : Nat → Int32} {P : Nat → Bool} {s : Nat} {q : Option Nat} (h1 : sl_aw mp ek s = false) : sl_sp mp sc ek P s q = q := by
  unfold sl_sp
  rw [h1, Bool.false_and, Bool.and_false]
  rfl
theorem sl_spW {mp : Int32} {sc ek : Nat → Int32} {P : Nat → Bool} {s : Nat} {q : Option Nat} (h1 : sl_wo sc s ≤ sl_wq sc q) : sl_sp mp sc ek P s q = q := by
  unfold sl_sp
  rw [decide_eq_false (fun z => z h1), Bool.and_false, Bool.and_false]
  rfl
theorem sl_wkL {post : SY → Prop} {l kn : Int32} {sX a b c : Nat → Int32} (hT : sl_sT sX a) (hc : sl_nT c) : ∀ k s q, s + k = 4096 → post (l, kn, sl_wq sX (sl_go (sl_sp l sX b (fun _ => true)) s k q), nI (sl_fq (sl_go (sl_sp l sX b (fun _ => true)) s k q)), a, b, c) → wY_workOut_26 post l kn a b c (k + 1) (nI s) (sl_wq sX q) (nI (sl_fq q)) := by
  intro k
  induction k with
  | zero =>
    intro s q hs h
    exact br_t (nI_le (a := 4096) (by omega) (by omega)) h
  | succ k ih =>
    intro s q hs h
    have h4 : s < 4096 := by omega
    have hr := fun q' (e : sl_sp l sX b (fun _ => true) s q = q') => ih (s + 1) q' (by omega) (by rw [← e]; exact h)
    refine br_f (nI_ge (b := 4096) h4 (by decide)) (sl_awY hc h4 ?_)
    cases ha : sl_aw l b s
    · exact br_t rfl (nm_r (nI_1 s) (hr q (sl_spA ha)))
    · refine br_f (by decide) (sl_woY hT h4 ?_)
      by_cases hw : sl_wo sX s ≤ sl_wq sX q
      · exact br_t hw (nm_r (nI_1 s) (hr q (sl_spW hw)))
      · exact br_f hw (nm_r (nI_1 s) (hr (some s) (sl_spT rfl ha hw)))
theorem sl_byL {post : Int32 → Prop} {l kn m0 f : Int32} {sX a b c : Nat → Int32} {u v w : Nat} (hT : sl_sT sX a) (hc : sl_nT c) (hu : u < 4) (hv : v < 4) (hw2 : w < 2) : ∀ k s q, s + k = 4096 → post (sl_wq sX (sl_go (sl_sp l sX b (fun s => sl_b (sl_mm s v) u == w)) s k q)) → wY_bestBy_7 post (nI u) (nI v) (nI w) l kn m0 f a b c (k + 1) (sl_wq sX q) (nI s) := by
  intro k
  induction k with
  | zero =>
    intro s q hs h
    exact br_t (nI_le (a := 4096) (by omega) (by omega)) h
  | succ k ih =>
    intro s q hs h
    have h4 : s < 4096 := by omega
    have hr := fun q' (e : sl_sp l sX b (fun s => sl_b (sl_mm s v) u == w) s q = q') => ih (s + 1) q' (by omega) (by rw [← e]; exact h)
    refine br_f (nI_ge (b := 4096) h4 (by decide)) (sl_parO h4 hv ?_)
    rw [sl_tBitS u hu _ (sl_mm16 hv)]
    have hb2 := sl_b01 (sl_mm s v) u
    by_cases hP : sl_b (sl_mm s v) u = w
    · have hP' : (sl_b (sl_mm s v) u == w) = true := beq_iff_eq.mpr hP
      refine br_t (congrArg nI hP) (sl_awY hc h4 ?_)
      cases ha : sl_aw l b s
      · exact br_t rfl (nm_r (nI_1 s) (hr q (sl_spA ha)))
      · refine br_f (by decide) (sl_woY hT h4 ?_)
        by_cases hw : sl_wo sX s ≤ sl_wq sX q
        · exact br_t hw (nm_r (nI_1 s) (hr q (sl_spW hw)))
        · exact br_f hw (nm_r (nI_1 s) (hr (some s) (sl_spT hP' ha hw)))
    · have hP' : (sl_b (sl_mm s v) u == w) = false := beq_eq_false_iff_ne.mpr hP
      exact br_f (fun z => hP ((nI_eq (by omega) (by omega)).mp z)) (nm_r (nI_1 s) (hr q (sl_spP hP')))
/-! the component's loops -/
theorem sl_woQ {post : Int32 → Prop} {q : Option Nat} {mp : Int32} {sc ek : Nat → Int32} (h : post (sl_wq sc q)) : wpX_worthOf post (mp, sc, ek) (sl_kp q) := by
  cases q with
  | none => exact sl_woN h
  | some s => exact sl_woX h
theorem sl_nIor (a b : Nat) : nI a ||| nI b = nI (a ||| b) := by
  apply Int32.toBitVec_inj.1
  show BitVec.ofNat 32 a ||| BitVec.ofNat 32 b = BitVec.ofNat 32 (a ||| b)
  apply BitVec.eq_of_getLsbD_eq
  intro i hi
  simp [hi]
theorem sl_orA {a p : Nat} (k : Nat) {s : Int32} (hs : (s.toBitVec.smod 32).toNat = k) (ha : a < 2 ^ k) (hp : p * 2 ^ k < 2 ^ 32) : nI a ||| (nI p <<< s) = nI (a + 2 ^ k * p) := by
  rw [pk_shlN s k hs hp, sl_nIor, Nat.mul_comm p, Nat.or_comm, ← Nat.two_pow_add_eq_or_of_lt ha, Nat.add_comm]
theorem sl_dgO {d0 d1 d2 d3 : Nat} (h0 : d0 < 8) (h1 : d1 < 8) (h2 : d2 < 8) (h3 : d3 < 8) : sl_dg (sl_sO d0 d1 d2 d3) 0 = d0 ∧ sl_dg (sl_sO d0 d1 d2 d3) 1 = d1 ∧ sl_dg (sl_sO d0 d1 d2 d3) 2 = d2 ∧ sl_dg (sl_sO d0 d1 d2 d3) 3 = d3 := by
  unfold sl_dg sl_sO
  refine ⟨?_, ?_, ?_, ?_⟩
  · show _ / 512 % 8 = _
    omega
  · show _ / 64 % 8 = _
    omega
  · show _ / 8 % 8 = _
    omega
  · show _ / 1 % 8 = _
    omega
theorem sl_mmO {d0 d1 d2 d3 : Nat} (h0 : d0 < 8) (h1 : d1 < 8) (h2 : d2 < 8) (h3 : d3 < 8) : sl_mm (sl_sO d0 d1 d2 d3) 0 = sl_mk 0 d0 ∧ sl_mm (sl_sO d0 d1 d2 d3) 1 = sl_mk 1 d1 ∧ sl_mm (sl_sO d0 d1 d2 d3) 2 = sl_mk 2 d2 ∧ sl_mm (sl_sO d0 d1 d2 d3) 3 = sl_mk 3 d3 := by
  obtain ⟨e0, e1, e2, e3⟩ := sl_dgO h0 h1 h2 h3
  unfold sl_mm
  rw [e0, e1, e2, e3]
  exact ⟨rfl, rfl, rfl, rfl⟩
theorem sl_sO4 {d0 d1 d2 d3 : Nat} (h0 : d0 < 8) (h1 : d1 < 8) (h2 : d2 < 8) (h3 : d3 < 8) : sl_sO d0 d1 d2 d3 < 4096 := by
  unfold sl_sO
  omega
def sl_ft (nd br r : Int32) : Bool := decide ((r &&& nd) = nd) && decide ((r &&& br) = 0)
def sl_PX (nd br : Int32) (v s : Nat) : Bool := sl_ft nd br (nI (sl_mm s v))
def sl_tl (mp : Int32) (sc ek : Nat → Int32) (nd br : Int32) (v d0 d1 d2 p : Nat) (q : Option Nat) : Option Nat :=
  if sl_ax mp ek 3 p = true then (if (sl_PX nd br v (sl_sO d0 d1 d2 (sl_un 3 p)) && (sl_nc (sl_mm (sl_sO d0 d1 d2 (sl_un 3 p))) && decide (¬ sl_wo sc (sl_sO d0 d1 d2 (sl_un 3 p)) ≤ sl_wq sc q))) = true then some (sl_sO d0 d1 d2 (sl_un 3 p)) else q) else q
def sl_hd (d0 d1 d2 : Nat) : Nat := sl_mk 0 d0 + 16 * sl_mk 1 d1 + 256 * sl_mk 2 d2
theorem sl_hdLt {d0 d1 d2 : Nat} (h0 : d0 < 8) (h1 : d1 < 8) (h2 : d2 < 8) : sl_hd d0 d1 d2 < 4096 := by
  have a0 := (sl_tMk 0 (by decide) d0 h0).1
  have a1 := (sl_tMk 1 (by decide) d1 h1).1
  have a2 := (sl_tMk 2 (by decide) d2 h2).1
  unfold sl_hd
  omega
theorem sl_axT {mp : Int32} {ek : Nat → Int32} {v p : Nat} (hv : v < 4) (hp : p < 16) (h : sl_ax mp ek v p = true) : sl_un v p < 8 ∧ sl_mk v (sl_un v p) = p := by
  unfold sl_ax at h
  rw [Bool.and_eq_true, beq_iff_eq] at h
  exact sl_tUn v hv p hp h.1
theorem sl_btL {post : Int32 → Prop} {mp nd br : Int32} {sc ek : Nat → Int32} {v d0 d1 d2 : Nat} (hv : v < 4) (h0 : d0 < 8) (h1 : d1 < 8) (h2 : d2 < 8) : ∀ k p q, p + k = 16 → post (sl_kp (sl_go (sl_tl mp sc ek nd br v d0 d1 d2) p k q)) → wX_betterOfTails_13 post (nI (sl_hd d0 d1 d2)) (nI v) nd br mp sc ek (k + 1) (sl_kp q) (sl_wq sc q) (nI p) := by
  intro k
  induction k with
  | zero =>
    intro p q hs h
    exact br_t (nI_le (a := 16) (by omega) (by omega)) h
  | succ k ih =>
    intro p q hs h
    have hp : p < 16 := by omega
    have hr := fun q' (e : sl_tl mp sc ek nd br v d0 d1 d2 p q = q') => ih (p + 1) q' (by omega) (by rw [← e]; exact h)
    refine br_f (nI_ge (b := 16) hp (by decide)) (nm_r (sl_orA 12 (by decide) (sl_hdLt h0 h1 h2) (by omega)) ?_)
    cases hax : sl_ax mp ek 3 p
    · have e : sl_tl mp sc ek nd br v d0 d1 d2 p q = q := by unfold sl_tl; rw [hax]; rfl
      unfold wpX_parentsIn
      refine br_c (fun _ => br_c (fun _ => ?_) (fun _ => ?_)) (fun _ => ?_)
      · refine br_f (by decide) (sl_isA (v := 3) mp sc ek (by decide) hp ?_)
        rw [hax]
        exact br_t rfl (nm_r (nI_1 p) (hr q e))
      · exact br_t rfl (nm_r (nI_1 p) (hr q e))
      · exact br_t rfl (nm_r (nI_1 p) (hr q e))
    · obtain ⟨hd3, hm3⟩ := sl_axT (by decide) hp hax
      have h4 := sl_sO4 h0 h1 h2 hd3
      obtain ⟨m0, m1, m2, m3⟩ := sl_mmO h0 h1 h2 hd3
      have hpk : sl_hd d0 d1 d2 + 2 ^ 12 * p = sl_pk (sl_sO d0 d1 d2 (sl_un 3 p)) := by
        unfold sl_hd sl_pk
        rw [m0, m1, m2, m3, hm3]
      rw [hpk]
      generalize hse : sl_sO d0 d1 d2 (sl_un 3 p) = s at *
      have etl : sl_tl mp sc ek nd br v d0 d1 d2 p q = (if (sl_PX nd br v s && (sl_nc (sl_mm s) && decide (¬ sl_wo sc s ≤ sl_wq sc q))) = true then some s else q) := by
        unfold sl_tl
        rw [hax, hse]
        rfl
      unfold wpX_parentsIn
      rw [sl_pIs hv]
      cases hft : sl_PX nd br v s
      · have e : sl_tl mp sc ek nd br v d0 d1 d2 p q = q := by rw [etl, hft]; rfl
        refine br_c (fun c1 => br_f (fun c2 => ?_) ?_) (fun _ => ?_)
        · unfold sl_PX sl_ft at hft
          rw [decide_eq_true c1, decide_eq_true c2] at hft
          cases hft
        · exact br_t rfl (nm_r (nI_1 p) (hr q e))
        · exact br_t rfl (nm_r (nI_1 p) (hr q e))
      · have hft' := hft
        unfold sl_PX sl_ft at hft'
        rw [Bool.and_eq_true, decide_eq_true_eq, decide_eq_true_eq] at hft'
        refine br_t hft'.1 (br_t hft'.2 (br_f (by decide) (sl_isA (v := 3) mp sc ek (by decide) hp ?_)))
        rw [hax]
        refine br_f (by decide) (sl_ncX (m := sl_mm s) (fun v hv => sl_mm16 hv) (fun v hv => sl_pIs hv) ?_)
        cases hn : sl_nc (sl_mm s)
        · have e : sl_tl mp sc ek nd br v d0 d1 d2 p q = q := by rw [etl, hft, hn]; rfl
          exact br_t rfl (nm_r (nI_1 p) (hr q e))
        · refine br_f (by decide) (sl_woX ?_)
          by_cases hw : sl_wo sc s ≤ sl_wq sc q
          · have e : sl_tl mp sc ek nd br v d0 d1 d2 p q = q := by rw [etl, hft, hn, decide_eq_false (fun z => z hw)]; rfl
            exact br_t hw (nm_r (nI_1 p) (hr q e))
          · have e : sl_tl mp sc ek nd br v d0 d1 d2 p q = some s := by rw [etl, hft, hn, decide_eq_true hw]; rfl
            exact br_f hw (nm_r (nI_1 p) (hr (some s) e))
theorem sl_bt {post : Int32 → Prop} {mp nd br : Int32} {sc ek : Nat → Int32} {v d0 d1 d2 : Nat} {q : Option Nat} (hv : v < 4) (h0 : d0 < 8) (h1 : d1 < 8) (h2 : d2 < 8) (h : post (sl_kp (sl_go (sl_tl mp sc ek nd br v d0 d1 d2) 0 16 q))) : wpX_betterOfTails post (mp, sc, ek) (sl_kp q) (nI (sl_hd d0 d1 d2)) (nI v) nd br := by
  unfold wpX_betterOfTails
  dsimp only
  exact sl_woQ ⟨17, sl_btL hv h0 h1 h2 16 0 q rfl h⟩
def sl_f2 (mp : Int32) (sc ek : Nat → Int32) (nd br : Int32) (v d0 d1 p : Nat) (q : Option Nat) : Option Nat :=
  if sl_ax mp ek 2 p = true then sl_go (sl_tl mp sc ek nd br v d0 d1 (sl_un 2 p)) 0 16 q else q
def sl_f1 (mp : Int32) (sc ek : Nat → Int32) (nd br : Int32) (v d0 p : Nat) (q : Option Nat) : Option Nat :=
  if sl_ax mp ek 1 p = true then sl_go (sl_f2 mp sc ek nd br v d0 (sl_un 1 p)) 0 16 q else q
def sl_f0 (mp : Int32) (sc ek : Nat → Int32) (nd br : Int32) (v p : Nat) (q : Option Nat) : Option Nat :=
  if sl_ax mp ek 0 p = true then sl_go (sl_f1 mp sc ek nd br v (sl_un 0 p)) 0 16 q else q
theorem sl_f2T {mp : Int32} {sc ek : Nat → Int32} {nd br : Int32} {v d0 d1 p : Nat} {q : Option Nat} (h : sl_ax mp ek 2 p = true) : sl_f2 mp sc ek nd br v d0 d1 p q = sl_go (sl_tl mp sc ek nd br v d0 d1 (sl_un 2 p)) 0 16 q := if_pos h
theorem sl_f2F {mp : Int32} {sc ek : Nat → Int32} {nd br : Int32} {v d0 d1 p : Nat} {q : Option Nat} (h : sl_ax mp ek 2 p = false) : sl_f2 mp sc ek nd br v d0 d1 p q = q := if_neg (by rw [h]; exact Bool.false_ne_true)
theorem sl_f1T {mp : Int32} {sc ek : Nat → Int32} {nd br : Int32} {v d0 p : Nat} {q : Option Nat} (h : sl_ax mp ek 1 p = true) : sl_f1 mp sc ek nd br v d0 p q = sl_go (sl_f2 mp sc ek nd br v d0 (sl_un 1 p)) 0 16 q := if_pos h
theorem sl_f1F {mp : Int32} {sc ek : Nat → Int32} {nd br : Int32} {v d0 p : Nat} {q : Option Nat} (h : sl_ax mp ek 1 p = false) : sl_f1 mp sc ek nd br v d0 p q = q := if_neg (by rw [h]; exact Bool.false_ne_true)
theorem sl_f0T {mp : Int32} {sc ek : Nat → Int32} {nd br : Int32} {v p : Nat} {q : Option Nat} (h : sl_ax mp ek 0 p = true) : sl_f0 mp sc ek nd br v p q = sl_go (sl_f1 mp sc ek nd br v (sl_un 0 p)) 0 16 q := if_pos h
theorem sl_f0F {mp : Int32} {sc ek : Nat → Int32} {nd br : Int32} {v p : Nat} {q : Option Nat} (h : sl_ax mp ek 0 p = false) : sl_f0 mp sc ek nd br v p q = q := if_neg (by rw [h]; exact Bool.false_ne_true)
theorem sl_heq {d0 d1 d2 : Nat} (h0 : d0 < 8) (h1 : d1 < 8) (h2 : d2 < 8) : (nI (sl_mk 0 d0) ||| (nI (sl_mk 1 d1) <<< ((4 : Int32) &&& 31))) ||| (nI (sl_mk 2 d2) <<< ((8 : Int32) &&& 31)) = nI (sl_hd d0 d1 d2) := by
  have a0 := (sl_tMk 0 (by decide) d0 h0).1
  have a1 := (sl_tMk 1 (by decide) d1 h1).1
  have a2 := (sl_tMk 2 (by decide) d2 h2).1
  rw [sl_orA 4 (by decide) (by omega) (by omega), sl_orA 8 (by decide) (by omega) (by omega)]
  rfl
theorem sl_L2 {post : Int32 → Prop} {J6 J29 : Int32 → Int32 → Prop} {mp nd br : Int32} {sc ek : Nat → Int32} {v d0 d1 : Nat} (hv : v < 4) (h0 : d0 < 8) (h1 : d1 < 8) : ∀ k p q, p + k = 16 → J29 (sl_kp (sl_go (sl_f2 mp sc ek nd br v d0 d1) p k q)) (nI (sl_mk 1 d1 + 1)) → wX_firstBest_52 post J6 J29 (nI v) nd br (nI (sl_mk 0 d0)) (nI (sl_mk 1 d1)) mp sc ek (k + 1) (sl_kp q) (nI p) := by
  intro k
  induction k with
  | zero =>
    intro p q hs h
    exact br_t (nI_le (a := 16) (by omega) (by omega)) (nm_r (nI_1 _) h)
  | succ k ih =>
    intro p q hs h
    have hp : p < 16 := by omega
    have hr := fun q' (e : sl_f2 mp sc ek nd br v d0 d1 p q = q') => ih (p + 1) q' (by omega) (by rw [← e]; exact h)
    refine br_f (nI_ge (b := 16) hp (by decide)) (sl_isA (v := 2) mp sc ek (by decide) hp ?_)
    cases hax : sl_ax mp ek 2 p
    · exact br_t rfl (nm_r (nI_1 p) (hr q (sl_f2F hax)))
    · obtain ⟨hd, hm⟩ := sl_axT (by decide) hp hax
      refine br_f (by decide) (nm_r (e' := nI (sl_hd d0 d1 (sl_un 2 p))) ?_ (sl_bt hv h0 h1 hd (nm_r (nI_1 p) (hr _ (sl_f2T hax)))))
      rw [← sl_heq h0 h1 hd, hm]
theorem sl_L1 {post : Int32 → Prop} {J6 : Int32 → Int32 → Prop} {mp nd br : Int32} {sc ek : Nat → Int32} {v d0 : Nat} (hv : v < 4) (h0 : d0 < 8) : ∀ k p q, p + k = 16 → J6 (sl_kp (sl_go (sl_f1 mp sc ek nd br v d0) p k q)) (nI (sl_mk 0 d0 + 1)) → wX_firstBest_29 post J6 (nI v) nd br (nI (sl_mk 0 d0)) mp sc ek (k + 1) (sl_kp q) (nI p) := by
  intro k
  induction k with
  | zero =>
    intro p q hs h
    exact br_t (nI_le (a := 16) (by omega) (by omega)) (nm_r (nI_1 _) h)
  | succ k ih =>
    intro p q hs h
    have hp : p < 16 := by omega
    have hr := fun q' (e : sl_f1 mp sc ek nd br v d0 p q = q') => ih (p + 1) q' (by omega) (by rw [← e]; exact h)
    refine br_f (nI_ge (b := 16) hp (by decide)) (sl_isA (v := 1) mp sc ek (by decide) hp ?_)
    cases hax : sl_ax mp ek 1 p
    · exact br_t rfl (nm_r (nI_1 p) (hr q (sl_f1F hax)))
    · obtain ⟨hd, hm⟩ := sl_axT (by decide) hp hax
      have hr' := hr _ (sl_f1T hax)
      have hl := sl_L2 (post := post) (J6 := J6) (J29 := wX_firstBest_29 post J6 (nI v) nd br (nI (sl_mk 0 d0)) mp sc ek (k + 1)) (mp := mp) (nd := nd) (br := br) (sc := sc) (ek := ek) hv h0 hd 16 0 q rfl
      rw [hm] at hl
      exact br_f (by decide) ⟨17, hl hr'⟩
theorem sl_L0 {post : Int32 → Prop} {mp nd br : Int32} {sc ek : Nat → Int32} {v : Nat} (hv : v < 4) : ∀ k p q, p + k = 16 → post (sl_kp (sl_go (sl_f0 mp sc ek nd br v) p k q)) → wX_firstBest_6 post (nI v) nd br mp sc ek (k + 1) (sl_kp q) (nI p) := by
  intro k
  induction k with
  | zero =>
    intro p q hs h
    exact br_t (nI_le (a := 16) (by omega) (by omega)) h
  | succ k ih =>
    intro p q hs h
    have hp : p < 16 := by omega
    have hr := fun q' (e : sl_f0 mp sc ek nd br v p q = q') => ih (p + 1) q' (by omega) (by rw [← e]; exact h)
    refine br_f (nI_ge (b := 16) hp (by decide)) (sl_isA (v := 0) mp sc ek (by decide) hp ?_)
    cases hax : sl_ax mp ek 0 p
    · exact br_t rfl (nm_r (nI_1 p) (hr q (sl_f0F hax)))
    · obtain ⟨hd, hm⟩ := sl_axT (by decide) hp hax
      have hr' := hr _ (sl_f0T hax)
      have hl := sl_L1 (post := post) (J6 := wX_firstBest_6 post (nI v) nd br mp sc ek (k + 1)) (mp := mp) (nd := nd) (br := br) (sc := sc) (ek := ek) hv hd 16 0 q rfl
      rw [hm] at hl
      exact br_f (by decide) ⟨17, hl hr'⟩
end
section
/-! the component's nested loops are the fold over 4096 structures -/
theorem sl_m16_0 {α : Type} (F H : Nat → α → α) (h1 : ∀ p, p < 16 → sl_b p 0 = 1 → ∀ q, F p q = q) (h0 : ∀ d, d < 8 → ∀ q, F (sl_mk 0 d) q = H d q) (q : α) : sl_go F 0 16 q = sl_go H 0 8 q := by
  have e0 : ∀ q, F 0 q = H 0 q := h0 0 (by decide)
  have e1 : ∀ q, F 1 q = q := h1 1 (by decide) (by decide)
  have e2 : ∀ q, F 2 q = H 1 q := h0 1 (by decide)
  have e3 : ∀ q, F 3 q = q := h1 3 (by decide) (by decide)
  have e4 : ∀ q, F 4 q = H 2 q := h0 2 (by decide)
  have e5 : ∀ q, F 5 q = q := h1 5 (by decide) (by decide)
  have e6 : ∀ q, F 6 q = H 3 q := h0 3 (by decide)
  have e7 : ∀ q, F 7 q = q := h1 7 (by decide) (by decide)
  have e8 : ∀ q, F 8 q = H 4 q := h0 4 (by decide)
  have e9 : ∀ q, F 9 q = q := h1 9 (by decide) (by decide)
  have e10 : ∀ q, F 10 q = H 5 q := h0 5 (by decide)
  have e11 : ∀ q, F 11 q = q := h1 11 (by decide) (by decide)
  have e12 : ∀ q, F 12 q = H 6 q := h0 6 (by decide)
  have e13 : ∀ q, F 13 q = q := h1 13 (by decide) (by decide)
  have e14 : ∀ q, F 14 q = H 7 q := h0 7 (by decide)
  have e15 : ∀ q, F 15 q = q := h1 15 (by decide) (by decide)
  show F 15 (F 14 (F 13 (F 12 (F 11 (F 10 (F 9 (F 8 (F 7 (F 6 (F 5 (F 4 (F 3 (F 2 (F 1 (F 0 q))))))))))))))) = H 7 (H 6 (H 5 (H 4 (H 3 (H 2 (H 1 (H 0 q)))))))
  rw [e15, e14, e13, e12, e11, e10, e9, e8, e7, e6, e5, e4, e3, e2, e1, e0]
theorem sl_m16_1 {α : Type} (F H : Nat → α → α) (h1 : ∀ p, p < 16 → sl_b p 1 = 1 → ∀ q, F p q = q) (h0 : ∀ d, d < 8 → ∀ q, F (sl_mk 1 d) q = H d q) (q : α) : sl_go F 0 16 q = sl_go H 0 8 q := by
  have e0 : ∀ q, F 0 q = H 0 q := h0 0 (by decide)
  have e1 : ∀ q, F 1 q = H 1 q := h0 1 (by decide)
  have e2 : ∀ q, F 2 q = q := h1 2 (by decide) (by decide)
  have e3 : ∀ q, F 3 q = q := h1 3 (by decide) (by decide)
  have e4 : ∀ q, F 4 q = H 2 q := h0 2 (by decide)
  have e5 : ∀ q, F 5 q = H 3 q := h0 3 (by decide)
  have e6 : ∀ q, F 6 q = q := h1 6 (by decide) (by decide)
  have e7 : ∀ q, F 7 q = q := h1 7 (by decide) (by decide)
  have e8 : ∀ q, F 8 q = H 4 q := h0 4 (by decide)
  have e9 : ∀ q, F 9 q = H 5 q := h0 5 (by decide)
  have e10 : ∀ q, F 10 q = q := h1 10 (by decide) (by decide)
  have e11 : ∀ q, F 11 q = q := h1 11 (by decide) (by decide)
  have e12 : ∀ q, F 12 q = H 6 q := h0 6 (by decide)
  have e13 : ∀ q, F 13 q = H 7 q := h0 7 (by decide)
  have e14 : ∀ q, F 14 q = q := h1 14 (by decide) (by decide)
  have e15 : ∀ q, F 15 q = q := h1 15 (by decide) (by decide)
  show F 15 (F 14 (F 13 (F 12 (F 11 (F 10 (F 9 (F 8 (F 7 (F 6 (F 5 (F 4 (F 3 (F 2 (F 1 (F 0 q))))))))))))))) = H 7 (H 6 (H 5 (H 4 (H 3 (H 2 (H 1 (H 0 q)))))))
  rw [e15, e14, e13, e12, e11, e10, e9, e8, e7, e6, e5, e4, e3, e2, e1, e0]
theorem sl_m16_2 {α : Type} (F H : Nat → α → α) (h1 : ∀ p, p < 16 → sl_b p 2 = 1 → ∀ q, F p q = q) (h0 : ∀ d, d < 8 → ∀ q, F (sl_mk 2 d) q = H d q) (q : α) : sl_go F 0 16 q = sl_go H 0 8 q := by
  have e0 : ∀ q, F 0 q = H 0 q := h0 0 (by decide)
  have e1 : ∀ q, F 1 q = H 1 q := h0 1 (by decide)
  have e2 : ∀ q, F 2 q = H 2 q := h0 2 (by decide)
  have e3 : ∀ q, F 3 q = H 3 q := h0 3 (by decide)
  have e4 : ∀ q, F 4 q = q := h1 4 (by decide) (by decide)
  have e5 : ∀ q, F 5 q = q := h1 5 (by decide) (by decide)
  have e6 : ∀ q, F 6 q = q := h1 6 (by decide) (by decide)
  have e7 : ∀ q, F 7 q = q := h1 7 (by decide) (by decide)
  have e8 : ∀ q, F 8 q = H 4 q := h0 4 (by decide)
  have e9 : ∀ q, F 9 q = H 5 q := h0 5 (by decide)
  have e10 : ∀ q, F 10 q = H 6 q := h0 6 (by decide)
  have e11 : ∀ q, F 11 q = H 7 q := h0 7 (by decide)
  have e12 : ∀ q, F 12 q = q := h1 12 (by decide) (by decide)
  have e13 : ∀ q, F 13 q = q := h1 13 (by decide) (by decide)
  have e14 : ∀ q, F 14 q = q := h1 14 (by decide) (by decide)
  have e15 : ∀ q, F 15 q = q := h1 15 (by decide) (by decide)
  show F 15 (F 14 (F 13 (F 12 (F 11 (F 10 (F 9 (F 8 (F 7 (F 6 (F 5 (F 4 (F 3 (F 2 (F 1 (F 0 q))))))))))))))) = H 7 (H 6 (H 5 (H 4 (H 3 (H 2 (H 1 (H 0 q)))))))
  rw [e15, e14, e13, e12, e11, e10, e9, e8, e7, e6, e5, e4, e3, e2, e1, e0]
theorem sl_m16_3 {α : Type} (F H : Nat → α → α) (h1 : ∀ p, p < 16 → sl_b p 3 = 1 → ∀ q, F p q = q) (h0 : ∀ d, d < 8 → ∀ q, F (sl_mk 3 d) q = H d q) (q : α) : sl_go F 0 16 q = sl_go H 0 8 q := by
  have e0 : ∀ q, F 0 q = H 0 q := h0 0 (by decide)
  have e1 : ∀ q, F 1 q = H 1 q := h0 1 (by decide)
  have e2 : ∀ q, F 2 q = H 2 q := h0 2 (by decide)
  have e3 : ∀ q, F 3 q = H 3 q := h0 3 (by decide)
  have e4 : ∀ q, F 4 q = H 4 q := h0 4 (by decide)
  have e5 : ∀ q, F 5 q = H 5 q := h0 5 (by decide)
  have e6 : ∀ q, F 6 q = H 6 q := h0 6 (by decide)
  have e7 : ∀ q, F 7 q = H 7 q := h0 7 (by decide)
  have e8 : ∀ q, F 8 q = q := h1 8 (by decide) (by decide)
  have e9 : ∀ q, F 9 q = q := h1 9 (by decide) (by decide)
  have e10 : ∀ q, F 10 q = q := h1 10 (by decide) (by decide)
  have e11 : ∀ q, F 11 q = q := h1 11 (by decide) (by decide)
  have e12 : ∀ q, F 12 q = q := h1 12 (by decide) (by decide)
  have e13 : ∀ q, F 13 q = q := h1 13 (by decide) (by decide)
  have e14 : ∀ q, F 14 q = q := h1 14 (by decide) (by decide)
  have e15 : ∀ q, F 15 q = q := h1 15 (by decide) (by decide)
  show F 15 (F 14 (F 13 (F 12 (F 11 (F 10 (F 9 (F 8 (F 7 (F 6 (F 5 (F 4 (F 3 (F 2 (F 1 (F 0 q))))))))))))))) = H 7 (H 6 (H 5 (H 4 (H 3 (H 2 (H 1 (H 0 q)))))))
  rw [e15, e14, e13, e12, e11, e10, e9, e8, e7, e6, e5, e4, e3, e2, e1, e0]
theorem sl_awO {mp : Int32} {ek : Nat → Int32} {d0 d1 d2 d3 : Nat} (h0 : d0 < 8) (h1 : d1 < 8) (h2 : d2 < 8) (h3 : d3 < 8) : sl_aw mp ek (sl_sO d0 d1 d2 d3) = (sl_nc (sl_mm (sl_sO d0 d1 d2 d3)) && (sl_ok mp ek 0 (sl_mk 0 d0) && (sl_ok mp ek 1 (sl_mk 1 d1) && (sl_ok mp ek 2 (sl_mk 2 d2) && (sl_ok mp ek 3 (sl_mk 3 d3) && true))))) := by
  obtain ⟨e0, e1, e2, e3⟩ := sl_mmO h0 h1 h2 h3
  rw [← e0, ← e1, ← e2, ← e3]
  rfl
theorem sl_axM {mp : Int32} {ek : Nat → Int32} {v d : Nat} (hv : v < 4) (hd : d < 8) : sl_ax mp ek v (sl_mk v d) = sl_ok mp ek v (sl_mk v d) := by
  unfold sl_ax
  rw [(sl_tMk v hv d hd).2.1]
  rfl
theorem sl_axO {mp : Int32} {ek : Nat → Int32} {v p : Nat} (h : sl_b p v = 1) : sl_ax mp ek v p = false := by
  unfold sl_ax
  rw [h]
  rfl
theorem sl_tlF {mp : Int32} {sc ek : Nat → Int32} {nd br : Int32} {v d0 d1 d2 p : Nat} {q : Option Nat} (h : sl_ax mp ek 3 p = false) : sl_tl mp sc ek nd br v d0 d1 d2 p q = q := if_neg (by rw [h]; exact Bool.false_ne_true)
theorem sl_E3 {mp : Int32} {sc ek : Nat → Int32} {nd br : Int32} {v d0 d1 d2 : Nat} (h0 : d0 < 8) (h1 : d1 < 8) (h2 : d2 < 8) (o0 : sl_ok mp ek 0 (sl_mk 0 d0) = true) (o1 : sl_ok mp ek 1 (sl_mk 1 d1) = true) (o2 : sl_ok mp ek 2 (sl_mk 2 d2) = true) (q : Option Nat) : sl_go (sl_tl mp sc ek nd br v d0 d1 d2) 0 16 q = sl_go (fun d3 q => sl_sp mp sc ek (sl_PX nd br v) (sl_sO d0 d1 d2 d3) q) 0 8 q := by
  refine sl_m16_3 _ _ (fun p hp hb q => sl_tlF (sl_axO hb)) (fun d hd q => ?_) q
  have ha := sl_awO (mp := mp) (ek := ek) h0 h1 h2 hd
  rw [o0, o1, o2, Bool.true_and, Bool.true_and, Bool.true_and, Bool.and_true] at ha
  cases o3 : sl_ok mp ek 3 (sl_mk 3 d)
  · rw [o3, Bool.and_false] at ha
    rw [sl_tlF ((sl_axM (by decide) hd).trans o3), sl_spA ha]
  · rw [o3, Bool.and_true] at ha
    have e : sl_un 3 (sl_mk 3 d) = d := (sl_tMk 3 (by decide) d hd).2.2
    unfold sl_tl sl_sp
    rw [if_pos ((sl_axM (by decide) hd).trans o3), e, ha]
theorem sl_E2 {mp : Int32} {sc ek : Nat → Int32} {nd br : Int32} {v d0 d1 : Nat} (h0 : d0 < 8) (h1 : d1 < 8) (o0 : sl_ok mp ek 0 (sl_mk 0 d0) = true) (o1 : sl_ok mp ek 1 (sl_mk 1 d1) = true) (q : Option Nat) : sl_go (sl_f2 mp sc ek nd br v d0 d1) 0 16 q = sl_go (fun d2 q => sl_go (fun d3 q => sl_sp mp sc ek (sl_PX nd br v) (sl_sO d0 d1 d2 d3) q) 0 8 q) 0 8 q := by
  refine sl_m16_2 _ _ (fun p hp hb q => sl_f2F (sl_axO hb)) (fun d hd q => ?_) q
  cases o2 : sl_ok mp ek 2 (sl_mk 2 d)
  · rw [sl_f2F ((sl_axM (by decide) hd).trans o2), sl_go_id]
    intro j _ hj q
    refine sl_spA ?_
    rw [sl_awO h0 h1 hd (by omega), o2]
    simp
  · rw [sl_f2T ((sl_axM (by decide) hd).trans o2), (sl_tMk 2 (by decide) d hd).2.2, sl_E3 h0 h1 hd o0 o1 o2]
theorem sl_E1 {mp : Int32} {sc ek : Nat → Int32} {nd br : Int32} {v d0 : Nat} (h0 : d0 < 8) (o0 : sl_ok mp ek 0 (sl_mk 0 d0) = true) (q : Option Nat) : sl_go (sl_f1 mp sc ek nd br v d0) 0 16 q = sl_go (fun d1 q => sl_go (fun d2 q => sl_go (fun d3 q => sl_sp mp sc ek (sl_PX nd br v) (sl_sO d0 d1 d2 d3) q) 0 8 q) 0 8 q) 0 8 q := by
  refine sl_m16_1 _ _ (fun p hp hb q => sl_f1F (sl_axO hb)) (fun d hd q => ?_) q
  cases o1 : sl_ok mp ek 1 (sl_mk 1 d)
  · rw [sl_f1F ((sl_axM (by decide) hd).trans o1), sl_go_id]
    intro i _ hi q
    refine sl_go_id _ _ _ _ ?_
    intro j _ hj q
    refine sl_spA ?_
    rw [sl_awO h0 hd (by omega) (by omega), o1]
    simp
  · rw [sl_f1T ((sl_axM (by decide) hd).trans o1), (sl_tMk 1 (by decide) d hd).2.2, sl_E2 h0 hd o0 o1]
theorem sl_E0 {mp : Int32} {sc ek : Nat → Int32} {nd br : Int32} {v : Nat} (q : Option Nat) : sl_go (sl_f0 mp sc ek nd br v) 0 16 q = sl_go (fun d0 q => sl_go (fun d1 q => sl_go (fun d2 q => sl_go (fun d3 q => sl_sp mp sc ek (sl_PX nd br v) (sl_sO d0 d1 d2 d3) q) 0 8 q) 0 8 q) 0 8 q) 0 8 q := by
  refine sl_m16_0 _ _ (fun p hp hb q => sl_f0F (sl_axO hb)) (fun d hd q => ?_) q
  cases o0 : sl_ok mp ek 0 (sl_mk 0 d)
  · rw [sl_f0F ((sl_axM (by decide) hd).trans o0), sl_go_id]
    intro l _ hl q
    refine sl_go_id _ _ _ _ ?_
    intro i _ hi q
    refine sl_go_id _ _ _ _ ?_
    intro j _ hj q
    refine sl_spA ?_
    rw [sl_awO hd (by omega) (by omega) (by omega), o0]
    simp
  · rw [sl_f0T ((sl_axM (by decide) hd).trans o0), (sl_tMk 0 (by decide) d hd).2.2, sl_E1 hd o0]
theorem sl_4096 {α : Type} (f : Nat → α → α) (q : α) : sl_go f 0 4096 q = sl_go (fun d0 q => sl_go (fun d1 q => sl_go (fun d2 q => sl_go (fun d3 q => f (sl_sO d0 d1 d2 d3) q) 0 8 q) 0 8 q) 0 8 q) 0 8 q := by
  have a := sl_go_mul f 8 512 0 q
  have b := sl_go_mul (fun j q => sl_go (fun l q => f (j * 8 + l) q) 0 8 q) 8 64 0 q
  have c := sl_go_mul (fun i q => sl_go (fun j q => sl_go (fun l q => f ((i * 8 + j) * 8 + l) q) 0 8 q) 0 8 q) 8 8 0 q
  exact a.trans (b.trans c)
theorem sl_fbX {post : Int32 → Prop} {mp nd br : Int32} {sc ek : Nat → Int32} {v : Nat} (hv : v < 4) (h : post (sl_kp (sl_MF mp sc ek (sl_PX nd br v)))) : wpX_firstBest post (mp, sc, ek) (nI v) nd br := by
  refine ⟨17, sl_L0 hv 16 0 none rfl ?_⟩
  rw [sl_E0, ← sl_4096 (sl_sp mp sc ek (sl_PX nd br v))]
  exact h
end
section
/-! the relation, what holds of the fold's answer, the simple methods -/
def sl_bd (sX : Nat → Int32) : Prop := ∀ v, v < 4 → ∀ d, d < 8 → -1000 ≤ (sX (v * 16 + sl_mk v d)).toInt ∧ (sX (v * 16 + sl_mk v d)).toInt ≤ 1000
/-- the relation: one limit, one table of edges, scores by mask and by digit alike and bounded, the reference's table of circles, and what it keeps as known is the fold's answer -/
def i_Rel (_ : Nat) (u : SX) (v : SY) : Prop := ∃ (mp : Int32) (sX ek : Nat → Int32) (kn mo fi : Int32) (sY c : Nat → Int32), u = (mp, sX, ek) ∧ v = (mp, kn, mo, fi, sY, ek, c) ∧ sl_sT sX sY ∧ sl_nT c ∧ sl_bd sX ∧ (¬ kn = 0 → mo = sl_wq sX (sl_MF mp sX ek (fun _ => true)) ∧ fi = nI (sl_fq (sl_MF mp sX ek (fun _ => true))))
theorem i_up {k : Nat} {u : SX} {v : SY} (h : i_Rel k u v) : i_Rel (k + 4) u v := h
theorem i_vc0 : wpX_init (fun u => wpY_init (fun v => i_Rel 0 u v)) := by
  refine ⟨4097, sl_iniL (fun c hc => ⟨3, fun _ => 0, fun _ => 0, 0, 0, 0, fun _ => 0, c, rfl, rfl, fun _ _ _ _ => rfl, hc, fun _ _ _ _ => ?_, fun z => absurd rfl z⟩) 4096 0 _ rfl (fun t ht => absurd ht (Nat.not_lt_zero t))⟩
  show -1000 ≤ (0 : Int32).toInt ∧ (0 : Int32).toInt ≤ 1000
  decide
theorem sl_addI {a b : Int32} (h1 : -100000 ≤ a.toInt) (h2 : a.toInt ≤ 100000) (h3 : -100000 ≤ b.toInt) (h4 : b.toInt ≤ 100000) : (a + b).toInt = a.toInt + b.toInt := by
  rw [Int32.toInt_add]
  exact Int.bmod_eq_of_le (by omega) (by omega)
theorem sl_bdm {sX : Nat → Int32} (h : sl_bd sX) {v p : Nat} (hv : v < 4) (hp : p < 16) (hb : sl_b p v = 0) : -1000 ≤ (sX (v * 16 + p)).toInt ∧ (sX (v * 16 + p)).toInt ≤ 1000 := by
  obtain ⟨h8, e⟩ := sl_tUn v hv p hp hb
  have := h v hv _ h8
  rw [e] at this
  exact this
theorem sl_woI {sX : Nat → Int32} (h : sl_bd sX) (s : Nat) : (sl_wo sX s).toInt = (sX (0 * 16 + sl_mm s 0)).toInt + (sX (1 * 16 + sl_mm s 1)).toInt + (sX (2 * 16 + sl_mm s 2)).toInt + (sX (3 * 16 + sl_mm s 3)).toInt := by
  have b0 := sl_bdm h (v := 0) (by decide) (sl_mm16 (s := s) (by decide)) (sl_mmb (by decide))
  have b1 := sl_bdm h (v := 1) (by decide) (sl_mm16 (s := s) (by decide)) (sl_mmb (by decide))
  have b2 := sl_bdm h (v := 2) (by decide) (sl_mm16 (s := s) (by decide)) (sl_mmb (by decide))
  have b3 := sl_bdm h (v := 3) (by decide) (sl_mm16 (s := s) (by decide)) (sl_mmb (by decide))
  unfold sl_wo
  generalize sX (0 * 16 + sl_mm s 0) = x0 at *
  generalize sX (1 * 16 + sl_mm s 1) = x1 at *
  generalize sX (2 * 16 + sl_mm s 2) = x2 at *
  generalize sX (3 * 16 + sl_mm s 3) = x3 at *
  rw [Int32.zero_add]
  have e1 := sl_addI (a := x0) (b := x1) (by omega) (by omega) (by omega) (by omega)
  have e2 := sl_addI (a := x0 + x1) (b := x2) (by omega) (by omega) (by omega) (by omega)
  have e3 := sl_addI (a := x0 + x1 + x2) (b := x3) (by omega) (by omega) (by omega) (by omega)
  omega
theorem sl_woB {sX : Nat → Int32} (h : sl_bd sX) (s : Nat) : -4000 ≤ (sl_wo sX s).toInt ∧ (sl_wo sX s).toInt ≤ 4000 := by
  have b0 := sl_bdm h (v := 0) (by decide) (sl_mm16 (s := s) (by decide)) (sl_mmb (by decide))
  have b1 := sl_bdm h (v := 1) (by decide) (sl_mm16 (s := s) (by decide)) (sl_mmb (by decide))
  have b2 := sl_bdm h (v := 2) (by decide) (sl_mm16 (s := s) (by decide)) (sl_mmb (by decide))
  have b3 := sl_bdm h (v := 3) (by decide) (sl_mm16 (s := s) (by decide)) (sl_mmb (by decide))
  rw [sl_woI h]
  omega
theorem sl_NI : (-100000 : Int32).toInt = -100000 := by decide
theorem sl_woNN {sX : Nat → Int32} (h : sl_bd sX) (s : Nat) : ¬ sl_wo sX s = -100000 := by
  intro e
  have := sl_woB h s
  rw [e, sl_NI] at this
  omega
theorem sl_go_inv {α : Type} (f : Nat → α → α) (I : Nat → α → Prop) : ∀ k i a, (∀ j a, i ≤ j → j < i + k → I j a → I (j + 1) (f j a)) → I i a → I (i + k) (sl_go f i k a) := by
  intro k
  induction k with
  | zero => intro i a _ h; exact h
  | succ k ih =>
    intro i a hs h
    have := ih (i + 1) (f i a) (fun j a h1 h2 => hs j a (by omega) (by omega)) (hs i a (by omega) (by omega) h)
    rw [show i + (k + 1) = i + 1 + k from by omega]
    exact this
theorem sl_MFp (mp : Int32) (sc ek : Nat → Int32) (P : Nat → Bool) : (∀ s, sl_MF mp sc ek P = some s → s < 4096 ∧ P s = true ∧ sl_aw mp ek s = true) ∧ (∀ s, s < 4096 → P s = true → sl_aw mp ek s = true → sl_wo sc s ≤ sl_wq sc (sl_MF mp sc ek P)) := by
  have h := sl_go_inv (sl_sp mp sc ek P) (fun i q => (∀ s, q = some s → s < i ∧ P s = true ∧ sl_aw mp ek s = true) ∧ (∀ s, s < i → P s = true → sl_aw mp ek s = true → sl_wo sc s ≤ sl_wq sc q)) 4096 0 none ?_ ⟨fun s e => by (cases e), fun s e => absurd e (Nat.not_lt_zero s)⟩
  · rw [Nat.zero_add] at h
    exact h
  · intro j q _ _ ⟨h1, h2⟩
    unfold sl_sp
    by_cases hc : (P j && (sl_aw mp ek j && decide (¬ sl_wo sc j ≤ sl_wq sc q))) = true
    · rw [if_pos hc]
      rw [Bool.and_eq_true, Bool.and_eq_true, decide_eq_true_eq] at hc
      obtain ⟨c1, c2, c3⟩ := hc
      refine ⟨fun s e => ?_, fun s hs p1 p2 => ?_⟩
      · cases e
        exact ⟨by omega, c1, c2⟩
      · by_cases e : s = j
        · subst e
          exact Int32.le_refl _
        · exact Int32.le_trans (h2 s (by omega) p1 p2) (Int32.le_of_lt (Int32.not_le.mp c3))
    · rw [if_neg hc]
      refine ⟨fun s e => ?_, fun s hs p1 p2 => ?_⟩
      · have := h1 s e
        exact ⟨by omega, this.2⟩
      · by_cases e : s = j
        · subst e
          rw [p1, p2, Bool.true_and, Bool.true_and, decide_eq_true_eq] at hc
          exact Classical.byContradiction hc
        · exact h2 s (by omega) p1 p2
theorem sl_wkY {post : SY → Prop} {mp kn mo fi : Int32} {sX sY ek c : Nat → Int32} (hT : sl_sT sX sY) (hc : sl_nT c) (hk : ¬ kn = 0 → mo = sl_wq sX (sl_MF mp sX ek (fun _ => true)) ∧ fi = nI (sl_fq (sl_MF mp sX ek (fun _ => true)))) (h : ∀ kn', ¬ kn' = 0 → post (mp, kn', sl_wq sX (sl_MF mp sX ek (fun _ => true)), nI (sl_fq (sl_MF mp sX ek (fun _ => true))), sY, ek, c)) : wpY_workOut post (mp, kn, mo, fi, sY, ek, c) := by
  refine br_c (fun h0 => ?_) (fun h0 => ?_)
  · have h1 := h 1 (by decide)
    unfold sl_MF at h1
    exact ⟨4097, sl_wkL hT hc 4096 0 none rfl h1⟩
  · obtain ⟨e1, e2⟩ := hk h0
    rw [e1, e2]
    exact h kn h0
theorem sl_relU {k : Nat} {mp kn mo fi : Int32} {sX sY ek c : Nat → Int32} (hT : sl_sT sX sY) (hc : sl_nT c) (hb : sl_bd sX) (h1 : mo = sl_wq sX (sl_MF mp sX ek (fun _ => true))) (h2 : fi = nI (sl_fq (sl_MF mp sX ek (fun _ => true)))) : i_Rel k (mp, sX, ek) (mp, kn, mo, fi, sY, ek, c) :=
  ⟨mp, sX, ek, kn, mo, fi, sY, c, rfl, rfl, hT, hc, hb, fun _ => ⟨h1, h2⟩⟩
theorem sl_rel0 {k : Nat} {mp mo fi : Int32} {sX sY ek c : Nat → Int32} (hT : sl_sT sX sY) (hc : sl_nT c) (hb : sl_bd sX) : i_Rel k (mp, sX, ek) (mp, 0, mo, fi, sY, ek, c) :=
  ⟨mp, sX, ek, 0, mo, fi, sY, c, rfl, rfl, hT, hc, hb, fun z => absurd rfl z⟩
theorem sl_sTu {sX sY : Nat → Int32} {v p : Nat} {x : Int32} (hT : sl_sT sX sY) (hv : v < 4) (hp : p < 16) (hb : sl_b p v = 0) : sl_sT (upd sX (v * 16 + p) x) (upd sY (v * 8 + sl_un v p) x) := by
  intro w hw d hd
  obtain ⟨u8, ue⟩ := sl_tUn v hv p hp hb
  obtain ⟨m16, _, me⟩ := sl_tMk w hw d hd
  by_cases e : w * 8 + d = v * 8 + sl_un v p
  · have e1 : w = v := by omega
    subst e1
    have e2 : d = sl_un w p := by omega
    subst e2
    rw [pk_us, ue, pk_us]
  · rw [pk_un e, pk_un, hT w hw d hd]
    intro e2
    have e1 : w = v := by omega
    subst e1
    have e3 : sl_mk w d = p := by omega
    rw [← e3, me] at e
    exact e rfl
theorem sl_bdu {sX : Nat → Int32} {i : Nat} {x : Int32} (hb : sl_bd sX) (h1 : -1000 ≤ x.toInt) (h2 : x.toInt ≤ 1000) : sl_bd (upd sX i x) := by
  intro w hw d hd
  by_cases e : w * 16 + sl_mk w d = i
  · rw [e, pk_us]
    exact ⟨h1, h2⟩
  · rw [pk_un e]
    exact hb w hw d hd
theorem sl_ix16 {x : Int32} : (x < 0 ∨ nI 16 ≤ x) ∨ ∃ j : Nat, j < 16 ∧ x = nI j := by
  rcases pk_ix x (n := 16) (by decide) with h | h | h
  · exact Or.inl (Or.inl h)
  · exact Or.inl (Or.inr h)
  · exact Or.inr h
theorem sl_ixv {x : Int32} : (x < 0 ∨ nI 4 ≤ x) ∨ ∃ j : Nat, j < 4 ∧ x = nI j := by
  rcases pk_ix x (n := 4) (by decide) with h | h | h
  · exact Or.inl (Or.inl h)
  · exact Or.inl (Or.inr h)
  · exact Or.inr h
theorem i_vc_score {k : Nat} {u : SX} {v : SY} (I : i_Rel k u v) (hk : k + 4 ≤ 2048) (v1 : Int32) (v2 : Int32) (v3 : Int32) : wpX_score (fun r u' => wpY_score (fun r' v' => r' = r ∧ i_Rel (k + 4) u' v') v v1 v2 v3) u v1 v2 v3 := by
  have same := i_up I
  obtain ⟨mp, sX, ek, kn, mo, fi, sY, c, rfl, rfl, hT, hc, hb, hk2⟩ := I
  unfold wpX_score wpY_score
  dsimp only
  rcases sl_ixv (x := v1) with h | ⟨v, hv, rfl⟩
  · exact sl_ivF h (br_t rfl (sl_bdF h (br_f (by decide) ⟨rfl, same⟩)))
  · refine sl_ivT hv (br_f (by decide) ?_)
    rcases sl_ix16 (x := v2) with h | ⟨p, hp, rfl⟩
    · exact sl_imO h (br_t rfl (sl_bdT hv (br_t rfl (sl_bmO h (br_f (by decide) ⟨rfl, same⟩)))))
    · rcases sl_b01 p v with hpb | hpb
      · refine sl_imT hv hp hpb (br_f (by decide) ?_)
        by_cases h1 : v3 < -1000
        · exact br_t h1 (sl_bdT hv (br_t rfl (sl_bmT hv hp hpb (br_t rfl (br_t h1 ⟨rfl, same⟩)))))
        · refine br_f h1 ?_
          by_cases h2 : v3 ≤ 1000
          · refine br_t h2 ⟨sl_wIn hv hp, nm_e ?_⟩
            refine sl_bdT hv (br_t rfl (sl_bmT hv hp hpb (br_t rfl (br_f h1 (br_t h2 (sl_digit hv hp ⟨sl_yIn hv (sl_tUn v hv p hp hpb).1, nm_e ⟨rfl, ?_⟩⟩))))))
            have u8 := (sl_tUn v hv p hp hpb).1
            rw [sl_ix, sl_ix8, nI_clamp (by omega), nI_clamp (by omega)]
            have b1 : -1000 ≤ v3.toInt := by
              have := Int32.le_iff_toInt_le.mp (Int32.not_lt.mp h1)
              rw [show (-1000 : Int32).toInt = -1000 from by decide] at this
              exact this
            have b2 : v3.toInt ≤ 1000 := by
              have := Int32.le_iff_toInt_le.mp h2
              rw [show (1000 : Int32).toInt = 1000 from by decide] at this
              exact this
            exact sl_rel0 (sl_sTu hT hv hp hpb) hc (sl_bdu hb b1 b2)
          · exact br_f h2 (sl_bdT hv (br_t rfl (sl_bmT hv hp hpb (br_t rfl (br_f h1 (br_f h2 ⟨rfl, same⟩))))))
      · exact sl_imF hv hp hpb (br_t rfl (sl_bdT hv (br_t rfl (sl_bmF hv hp hpb (br_f (by decide) ⟨rfl, same⟩)))))
theorem i_vc_limit {k : Nat} {u : SX} {v : SY} (I : i_Rel k u v) (hk : k + 4 ≤ 2048) (v1 : Int32) : wpX_limit (fun r u' => wpY_limit (fun r' v' => r' = r ∧ i_Rel (k + 4) u' v') v v1) u v1 := by
  have same := i_up I
  obtain ⟨mp, sX, ek, kn, mo, fi, sY, c, rfl, rfl, hT, hc, hb, hk2⟩ := I
  by_cases h1 : v1 < 0
  · exact br_t h1 (br_t h1 ⟨rfl, same⟩)
  · by_cases h2 : v1 ≤ 3
    · exact br_f h1 (br_t h2 (br_f h1 (br_t h2 ⟨rfl, sl_rel0 hT hc hb⟩)))
    · exact br_f h1 (br_f h2 (br_f h1 (br_f h2 ⟨rfl, same⟩)))
theorem sl_ipT {post : Int32 → Prop} {u v : Nat} (hu : u < 4) (hv : v < 4) (hne : ¬ nI u = nI v) (h : post 1) : wpX_isPair post (nI u) (nI v) := by
  unfold wpX_isPair
  exact sl_ivT hu (br_f (by decide) (sl_ivT hv (br_f (by decide) (br_f hne h))))
theorem sl_ipE {post : Int32 → Prop} {u v : Nat} (hu : u < 4) (hv : v < 4) (hne : nI u = nI v) (h : post 0) : wpX_isPair post (nI u) (nI v) := by
  unfold wpX_isPair
  exact sl_ivT hu (br_f (by decide) (sl_ivT hv (br_f (by decide) (br_t hne h))))
theorem sl_ipU {post : Int32 → Prop} {x y : Int32} (hu : x < 0 ∨ nI 4 ≤ x) (h : post 0) : wpX_isPair post x y := by
  unfold wpX_isPair
  exact sl_ivF hu (br_t rfl h)
theorem sl_ipV {post : Int32 → Prop} {u : Nat} {y : Int32} (hu : u < 4) (hv : y < 0 ∨ nI 4 ≤ y) (h : post 0) : wpX_isPair post (nI u) y := by
  unfold wpX_isPair
  exact sl_ivT hu (br_f (by decide) (sl_ivF hv (br_t rfl h)))
theorem i_vc_edge {k : Nat} {u : SX} {v : SY} (I : i_Rel k u v) (hk : k + 4 ≤ 2048) (v1 : Int32) (v2 : Int32) (v3 : Int32) : wpX_edge (fun r u' => wpY_edge (fun r' v' => r' = r ∧ i_Rel (k + 4) u' v') v v1 v2 v3) u v1 v2 v3 := by
  have same := i_up I
  obtain ⟨mp, sX, ek, kn, mo, fi, sY, c, rfl, rfl, hT, hc, hb, hk2⟩ := I
  unfold wpX_edge wpY_edge
  dsimp only
  rcases sl_ixv (x := v1) with h | ⟨a, ha, rfl⟩
  · exact sl_ipU h (br_t rfl (sl_bdF h (br_f (by decide) ⟨rfl, same⟩)))
  · rcases sl_ixv (x := v2) with h | ⟨b, hb4, rfl⟩
    · exact sl_ipV ha h (br_t rfl (sl_bdT ha (br_t rfl (sl_bdF h (br_f (by decide) ⟨rfl, same⟩)))))
    · by_cases he : nI a = nI b
      · exact sl_ipE ha hb4 he (br_t rfl (sl_bdT ha (br_t rfl (sl_bdT hb4 (br_t rfl (br_t he ⟨rfl, same⟩))))))
      · refine sl_ipT ha hb4 he (br_f (by decide) (nm_e ⟨sl_ekIn ha hb4, nm_e (nm_e ?_)⟩))
        by_cases h3 : v3 &&& 3 = 3
        · exact br_t h3 ⟨sl_ekIn ha hb4, nm_e (sl_bdT ha (br_t rfl (sl_bdT hb4 (br_t rfl (br_f he ⟨sl_ekIn ha hb4, nm_e (br_t h3 ⟨sl_ekIn ha hb4, nm_e ⟨rfl, sl_rel0 hT hc hb⟩⟩)⟩)))))⟩
        · exact br_f h3 ⟨sl_ekIn ha hb4, nm_e (sl_bdT ha (br_t rfl (sl_bdT hb4 (br_t rfl (br_f he ⟨sl_ekIn ha hb4, nm_e (br_f h3 ⟨sl_ekIn ha hb4, nm_e ⟨rfl, sl_rel0 hT hc hb⟩⟩)⟩)))))⟩
theorem i_vc_scoreOf {k : Nat} {u : SX} {v : SY} (I : i_Rel k u v) (hk : k + 4 ≤ 2048) (v1 : Int32) (v2 : Int32) : wpX_scoreOf (fun r => wpY_scoreOf (fun r' => r' = r ∧ i_Rel (k + 4) u v) v v1 v2) u v1 v2 := by
  have same := i_up I
  obtain ⟨mp, sX, ek, kn, mo, fi, sY, c, rfl, rfl, hT, hc, hb, hk2⟩ := I
  unfold wpX_scoreOf wpY_scoreOf
  dsimp only
  rcases sl_ixv (x := v1) with h | ⟨v, hv, rfl⟩
  · exact sl_ivF h (br_t rfl (sl_bdF h (br_f (by decide) ⟨rfl, same⟩)))
  · refine sl_ivT hv (br_f (by decide) ?_)
    rcases sl_ix16 (x := v2) with h | ⟨p, hp, rfl⟩
    · exact sl_imO h (br_t rfl (sl_bdT hv (br_t rfl (sl_bmO h (br_f (by decide) ⟨rfl, same⟩)))))
    · rcases sl_b01 p v with hpb | hpb
      · obtain ⟨u8, ue⟩ := sl_tUn v hv p hp hpb
        refine sl_imT hv hp hpb (br_f (by decide) ⟨sl_wIn hv hp, sl_bdT hv (br_t rfl (sl_bmT hv hp hpb (br_t rfl (sl_digit hv hp ⟨sl_yIn hv u8, ?_, same⟩))))⟩)
        rw [sl_wAt sX hv hp, sl_yAt sY hv u8, hT v hv _ u8, ue]
      · exact sl_imF hv hp hpb (br_t rfl (sl_bdT hv (br_t rfl (sl_bmF hv hp hpb (br_f (by decide) ⟨rfl, same⟩)))))
end
section
/-! best, parents, bestWith, bestWithout, edges -/
theorem sl_tF0 : ∀ p, p < 16 → sl_ft 0 0 (nI p) = true := by decide +kernel
theorem sl_tF1 : ∀ u, u < 4 → ∀ p, p < 16 → sl_ft ((1 : Int32) <<< (nI u &&& 31)) 0 (nI p) = (sl_b p u == 1) := by decide +kernel
theorem sl_tF2 : ∀ u, u < 4 → ∀ p, p < 16 → sl_ft 0 ((1 : Int32) <<< (nI u &&& 31)) (nI p) = (sl_b p u == 0) := by decide +kernel
theorem sl_P0 : sl_PX 0 0 0 = (fun _ => true) := funext fun s => sl_tF0 _ (sl_mm16 (by decide))
theorem sl_P1 {u v : Nat} (hu : u < 4) (hv : v < 4) : sl_PX ((1 : Int32) <<< (nI u &&& 31)) 0 v = (fun s => sl_b (sl_mm s v) u == 1) := funext fun s => sl_tF1 u hu _ (sl_mm16 hv)
theorem sl_P2 {u v : Nat} (hu : u < 4) (hv : v < 4) : sl_PX 0 ((1 : Int32) <<< (nI u &&& 31)) v = (fun s => sl_b (sl_mm s v) u == 0) := funext fun s => sl_tF2 u hu _ (sl_mm16 hv)
theorem sl_fb0 {post : Int32 → Prop} {mp : Int32} {sc ek : Nat → Int32} (h : post (sl_kp (sl_MF mp sc ek (fun _ => true)))) : wpX_firstBest post (mp, sc, ek) 0 0 0 :=
  sl_fbX (v := 0) (by decide) (by rw [sl_P0]; exact h)
theorem i_vc_best {k : Nat} {u : SX} {v : SY} (I : i_Rel k u v) (hk : k + 4 ≤ 2048) : wpX_best (fun r => wpY_best (fun r' v' => r' = r ∧ i_Rel (k + 4) u v') v) u := by
  obtain ⟨mp, sX, ek, kn, mo, fi, sY, c, rfl, rfl, hT, hc, hb, hk2⟩ := I
  unfold wpX_best wpY_best
  dsimp only
  exact sl_fb0 (sl_woQ (sl_wkY hT hc hk2 (fun kn' h' => ⟨rfl, sl_relU hT hc hb rfl rfl⟩)))
theorem i_vc_parents {k : Nat} {u : SX} {v : SY} (I : i_Rel k u v) (hk : k + 4 ≤ 2048) (v1 : Int32) : wpX_parents (fun r => wpY_parents (fun r' v' => r' = r ∧ i_Rel (k + 4) u v') v v1) u v1 := by
  have same := i_up I
  obtain ⟨mp, sX, ek, kn, mo, fi, sY, c, rfl, rfl, hT, hc, hb, hk2⟩ := I
  unfold wpX_parents wpY_parents
  dsimp only
  rcases sl_ixv (x := v1) with h | ⟨v, hv, rfl⟩
  · exact sl_ivF h (br_t rfl (sl_bdF h (br_f (by decide) ⟨rfl, same⟩)))
  · refine sl_ivT hv (br_f (by decide) (sl_fb0 ?_))
    have hR := fun kn' => sl_relU (k := k + 4) (mp := mp) (kn := kn') (sX := sX) (sY := sY) (ek := ek) (c := c) hT hc hb rfl rfl
    have hW := fun post h => sl_wkY (post := post) hT hc hk2 h
    have hp := (sl_MFp mp sX ek (fun _ => true)).1
    generalize sl_MF mp sX ek (fun _ => true) = q at *
    cases q with
    | none => exact br_t rfl (sl_bdT hv (br_t rfl (hW _ (fun kn' h' => br_t rfl ⟨rfl, hR kn'⟩))))
    | some s =>
      refine br_f (sl_pkN s) ?_
      unfold wpX_parentsIn
      dsimp only [sl_kp]
      rw [sl_pIs hv]
      exact sl_bdT hv (br_t rfl (hW _ (fun kn' h' => br_f (sl_woNN hb s) (sl_parO (hp s rfl).1 hv ⟨rfl, hR kn'⟩))))
theorem sl_bbY {post : Int32 → Prop} {l kn m0 f : Int32} {sX a b c : Nat → Int32} {u v w : Nat} (hT : sl_sT sX a) (hc : sl_nT c) (hu : u < 4) (hv : v < 4) (hw2 : w < 2) (h : post (sl_wq sX (sl_MF l sX b (fun s => sl_b (sl_mm s v) u == w)))) : wpY_bestBy post (l, kn, m0, f, a, b, c) (nI u) (nI v) (nI w) := by
  unfold sl_MF at h
  exact ⟨4097, sl_byL hT hc hu hv hw2 4096 0 none rfl h⟩
theorem i_vc_bestWith {k : Nat} {u : SX} {v : SY} (I : i_Rel k u v) (hk : k + 4 ≤ 2048) (v1 : Int32) (v2 : Int32) : wpX_bestWith (fun r => wpY_bestWith (fun r' => r' = r ∧ i_Rel (k + 4) u v) v v1 v2) u v1 v2 := by
  have same := i_up I
  obtain ⟨mp, sX, ek, kn, mo, fi, sY, c, rfl, rfl, hT, hc, hb, hk2⟩ := I
  unfold wpX_bestWith wpY_bestWith
  dsimp only
  rcases sl_ixv (x := v1) with h | ⟨a, ha, rfl⟩
  · exact sl_ipU h (br_t rfl (sl_bdF h (br_f (by decide) ⟨rfl, same⟩)))
  · rcases sl_ixv (x := v2) with h | ⟨b, hb4, rfl⟩
    · exact sl_ipV ha h (br_t rfl (sl_bdT ha (br_t rfl (sl_bdF h (br_f (by decide) ⟨rfl, same⟩)))))
    · by_cases he : nI a = nI b
      · exact sl_ipE ha hb4 he (br_t rfl (sl_bdT ha (br_t rfl (sl_bdT hb4 (br_t rfl (br_t he ⟨rfl, same⟩))))))
      · refine sl_ipT ha hb4 he (br_f (by decide) (sl_fbX hb4 ?_))
        rw [sl_P1 ha hb4]
        exact sl_woQ (sl_bdT ha (br_t rfl (sl_bdT hb4 (br_t rfl (br_f he (sl_bbY (w := 1) hT hc ha hb4 (by decide) ⟨rfl, same⟩))))))
theorem i_vc_bestWithout {k : Nat} {u : SX} {v : SY} (I : i_Rel k u v) (hk : k + 4 ≤ 2048) (v1 : Int32) (v2 : Int32) : wpX_bestWithout (fun r => wpY_bestWithout (fun r' => r' = r ∧ i_Rel (k + 4) u v) v v1 v2) u v1 v2 := by
  have same := i_up I
  obtain ⟨mp, sX, ek, kn, mo, fi, sY, c, rfl, rfl, hT, hc, hb, hk2⟩ := I
  unfold wpX_bestWithout wpY_bestWithout
  dsimp only
  rcases sl_ixv (x := v1) with h | ⟨a, ha, rfl⟩
  · exact sl_ipU h (br_t rfl (sl_bdF h (br_f (by decide) ⟨rfl, same⟩)))
  · rcases sl_ixv (x := v2) with h | ⟨b, hb4, rfl⟩
    · exact sl_ipV ha h (br_t rfl (sl_bdT ha (br_t rfl (sl_bdF h (br_f (by decide) ⟨rfl, same⟩)))))
    · by_cases he : nI a = nI b
      · exact sl_ipE ha hb4 he (br_t rfl (sl_bdT ha (br_t rfl (sl_bdT hb4 (br_t rfl (br_t he ⟨rfl, same⟩))))))
      · refine sl_ipT ha hb4 he (br_f (by decide) (sl_fbX hb4 ?_))
        rw [sl_P2 ha hb4]
        exact sl_woQ (sl_bdT ha (br_t rfl (sl_bdT hb4 (br_t rfl (br_f he (sl_bbY (w := 0) hT hc ha hb4 (by decide) ⟨rfl, same⟩))))))
theorem sl_egX {post : Int32 → Prop} {s v a n : Nat} {mp : Int32} {sc ek : Nat → Int32} (hv : v < 4) (h : wX_edges_20 post (nI (sl_pk s)) mp sc ek n (nI (a + sl_sz (sl_mm s v))) (nI (v + 1))) : wX_edges_20 post (nI (sl_pk s)) mp sc ek (n + 1) (nI a) (nI v) := by
  refine br_f (nI_ge (b := 4) hv (by decide)) ?_
  unfold wpX_parentsIn
  rw [sl_pIs hv]
  exact sl_size (sl_mm16 hv) (nm_r (nI_add _ _) (nm_r (nI_1 v) h))
theorem sl_egY {post : Int32 → SY → Prop} {s v x n : Nat} {l kn m0 : Int32} {a b c : Nat → Int32} (hs : s < 4096) (hv : v < 4) (h : wY_edges_20 post l kn m0 (nI s) a b c n (nI (x + sl_sz (sl_mm s v))) (nI (v + 1))) : wY_edges_20 post l kn m0 (nI s) a b c (n + 1) (nI x) (nI v) :=
  br_f (nI_ge (b := 4) hv (by decide)) (sl_parO hs hv (sl_bits (sl_mm16 hv) (nm_r (nI_add _ _) (nm_r (nI_1 v) h))))
theorem i_vc_edges {k : Nat} {u : SX} {v : SY} (I : i_Rel k u v) (hk : k + 4 ≤ 2048) : wpX_edges (fun r => wpY_edges (fun r' v' => r' = r ∧ i_Rel (k + 4) u v') v) u := by
  obtain ⟨mp, sX, ek, kn, mo, fi, sY, c, rfl, rfl, hT, hc, hb, hk2⟩ := I
  unfold wpX_edges wpY_edges
  dsimp only
  refine sl_fb0 ?_
  have hR := fun kn' => sl_relU (k := k + 4) (mp := mp) (kn := kn') (sX := sX) (sY := sY) (ek := ek) (c := c) hT hc hb rfl rfl
  have hW := fun post h => sl_wkY (post := post) hT hc hk2 h
  have hp := (sl_MFp mp sX ek (fun _ => true)).1
  generalize sl_MF mp sX ek (fun _ => true) = q at *
  cases q with
  | none => exact br_t rfl (hW _ (fun kn' h' => br_t rfl ⟨rfl, hR kn'⟩))
  | some s =>
    have h4 := (hp s rfl).1
    have t4 : (4 : Int32) ≤ nI (3 + 1) := nI_le (a := 4) (b := 4) (by decide) (by decide)
    refine br_f (sl_pkN s) ⟨5, sl_egX (a := 0) (v := 0) (by decide) (sl_egX (v := 1) (by decide) (sl_egX (v := 2) (by decide) (sl_egX (v := 3) (by decide) (br_t t4 ?_))))⟩
    refine hW _ (fun kn' h' => br_f (sl_woNN hb s) ⟨5, sl_egY (x := 0) (v := 0) h4 (by decide) (sl_egY (v := 1) h4 (by decide) (sl_egY (v := 2) h4 (by decide) (sl_egY (v := 3) h4 (by decide) (br_t t4 ⟨rfl, hR kn'⟩))))⟩)
end
section
/-! learn -/
theorem sl_subI {a b : Nat} (ha : a < 2 ^ 30) (hb : b < 2 ^ 30) : (nI a - nI b).toInt = (a : Int) - b := by
  rw [Int32.toInt_sub, nI_toInt (by omega), nI_toInt (by omega)]
  exact Int.bmod_eq_of_le (by omega) (by omega)
theorem sl_val (cs : Int64) (y : Int64) : ∃ x, x < 16 ∧ ((cs >>> y).toInt32 &&& 15) = nI x ∧ ((cs >>> y) &&& 15).toInt32 = nI x := by
  obtain ⟨x, hx, e⟩ := pk_andE ((cs >>> y).toInt32) (m := 15) 4 (by decide)
  refine ⟨x, hx, e, ?_⟩
  rw [Int64.toInt32_and]
  exact e
theorem sl_hit {v p t : Nat} {cs : Int64} (hv : v < 4) : ∀ k j z o, j + k = 16 → z + o ≤ j → ∃ r, r ≤ 16 ∧ (∀ post : Int32 → Prop, post (nI r) → wX_hitsInSetting_9 post (nI v) (nI p) (nI t) cs (k + 1) (nI z) (nI o) (nI j)) ∧ (∀ (post : Int32 → Prop) (l kn m0 f : Int32) (a b c : Nat → Int32), post (nI r) → wY_greater_9 post cs (nI v) (nI p) (nI t) l kn m0 f a b c (k + 1) (nI z) (nI o) (nI j)) := by
  intro k
  induction k with
  | zero =>
    intro j z o hj hz
    have t16 : (16 : Int32) ≤ nI j := nI_le (a := 16) (by omega) (by omega)
    by_cases h : o ≤ z
    · refine ⟨z, by omega, fun post hp => br_t t16 (pk_le o z (fun _ => hp) (fun g => by omega)), fun post l kn m0 f a b c hp => br_t t16 (pk_le z o (fun g => ?_) (fun _ => hp))⟩
      have : z = o := by omega
      rw [← this]
      exact hp
    · exact ⟨o, by omega, fun post hp => br_t t16 (pk_le o z (fun g => by omega) (fun _ => hp)), fun post l kn m0 f a b c hp => br_t t16 (pk_le z o (fun _ => hp) (fun g => by omega))⟩
  | succ k ih =>
    intro j z o hj hz
    have hj16 : j < 16 := by omega
    have n16 : ¬ (16 : Int32) ≤ nI j := nI_ge (b := 16) hj16 (by decide)
    obtain ⟨x, hx, e1, e2⟩ := sl_val cs ((4 * nI j).toInt64 &&& 63)
    by_cases ht : (nI x &&& nI p) = nI t
    · rcases sl_b01 x v with hb | hb
      · obtain ⟨r, hr, hX, hY⟩ := ih (j + 1) (z + 1) o (by omega) (by omega)
        refine ⟨r, hr, fun post hp => br_f n16 (nm_r e1 (br_t ht (sl_con0 hx hv hb (br_t rfl (nm_r (nI_1 z) (nm_r (nI_1 j) (hX post hp))))))), fun post l kn m0 f a b c hp => br_f n16 (nm_r e2 (br_t ht (nm_r (e' := nI o) ?_ (nm_r (e' := nI (z + 1)) ?_ (nm_r (nI_1 j) (hY post l kn m0 f a b c hp))))))⟩
        · rw [sl_tBitS v hv x hx, hb, nI_add]; rfl
        · rw [sl_tBitS v hv x hx, hb, nI_1, pk_sub (by omega)]; rfl
      · obtain ⟨r, hr, hX, hY⟩ := ih (j + 1) z (o + 1) (by omega) (by omega)
        refine ⟨r, hr, fun post hp => br_f n16 (nm_r e1 (br_t ht (sl_con1 hx hv hb (br_f (by decide) (nm_r (nI_1 o) (nm_r (nI_1 j) (hX post hp))))))), fun post l kn m0 f a b c hp => br_f n16 (nm_r e2 (br_t ht (nm_r (e' := nI (o + 1)) ?_ (nm_r (e' := nI z) ?_ (nm_r (nI_1 j) (hY post l kn m0 f a b c hp))))))⟩
        · rw [sl_tBitS v hv x hx, hb, nI_add]
        · rw [sl_tBitS v hv x hx, hb, nI_1, pk_sub (by omega)]; rfl
    · obtain ⟨r, hr, hX, hY⟩ := ih (j + 1) z o (by omega) (by omega)
      exact ⟨r, hr, fun post hp => br_f n16 (nm_r e1 (br_f ht (nm_r (nI_1 j) (hX post hp)))), fun post l kn m0 f a b c hp => br_f n16 (nm_r e2 (br_f ht (nm_r (nI_1 j) (hY post l kn m0 f a b c hp))))⟩
theorem sl_hits {v p : Nat} {cs : Int64} (hv : v < 4) : ∀ k t x, t + k = 16 → x ≤ 16 * t → ∃ r, r ≤ 256 ∧ (∀ post : Int32 → Prop, post (nI r) → wX_hitsOf_6 post (nI v) (nI p) cs (k + 1) (nI x) (nI t)) ∧ (∀ (post : Int32 → Prop) (l kn m0 f : Int32) (a b c : Nat → Int32), post (nI r) → wY_hits_6 post cs (nI v) (nI p) l kn m0 f a b c (k + 1) (nI x) (nI t)) := by
  intro k
  induction k with
  | zero =>
    intro t x ht hx
    have t16 : (16 : Int32) ≤ nI t := nI_le (a := 16) (by omega) (by omega)
    exact ⟨x, by omega, fun post hp => br_t t16 hp, fun post l kn m0 f a b c hp => br_t t16 hp⟩
  | succ k ih =>
    intro t x ht hx
    have n16 : ¬ (16 : Int32) ≤ nI t := nI_ge (b := 16) (by omega) (by decide)
    by_cases hs : (nI t &&& (nI p ^^^ (-1))) = 0
    · obtain ⟨g, hg, gX, gY⟩ := sl_hit (p := p) (t := t) (cs := cs) hv 16 0 0 0 rfl (by omega)
      obtain ⟨r, hr, hX, hY⟩ := ih (t + 1) (x + g) (by omega) (by omega)
      exact ⟨r, hr, fun post hp => br_f n16 (br_t hs ⟨17, gX _ (nm_r (nI_add _ _) (nm_r (nI_1 t) (hX post hp)))⟩), fun post l kn m0 f a b c hp => br_f n16 (br_t hs ⟨17, gY _ l kn m0 f a b c (nm_r (nI_add _ _) (nm_r (nI_1 t) (hY post l kn m0 f a b c hp)))⟩)⟩
    · obtain ⟨r, hr, hX, hY⟩ := ih (t + 1) x (by omega) (by omega)
      exact ⟨r, hr, fun post hp => br_f n16 (br_f hs (nm_r (nI_1 t) (hX post hp))), fun post l kn m0 f a b c hp => br_f n16 (br_f hs (nm_r (nI_1 t) (hY post l kn m0 f a b c hp)))⟩
def sl_hG (cs : Int64) (v p r : Nat) : Prop := r ≤ 256 ∧ (∀ post : Int32 → Prop, post (nI r) → wpX_hitsOf post (nI v) (nI p) cs) ∧ (∀ (post : Int32 → Prop) (l kn m0 f : Int32) (a b c : Nat → Int32), post (nI r) → wpY_hits post (l, kn, m0, f, a, b, c) cs (nI v) (nI p))
theorem sl_hEx (cs : Int64) {v : Nat} (p : Nat) (hv : v < 4) : ∃ r, sl_hG cs v p r := by
  obtain ⟨r, hr, hX, hY⟩ := sl_hits (p := p) (cs := cs) hv 16 0 0 rfl (by omega)
  exact ⟨r, hr, fun post hp => ⟨17, hX post hp⟩, fun post l kn m0 f a b c hp => ⟨17, hY post l kn m0 f a b c hp⟩⟩
theorem sl_hAll (cs : Int64) : ∃ G : Nat → Nat → Nat, ∀ v, v < 4 → ∀ p, sl_hG cs v p (G v p) :=
  ⟨fun v p => if h : v < 4 then Classical.choose (sl_hEx cs p h) else 0, fun v hv p => by
    have := Classical.choose_spec (sl_hEx cs p hv)
    dsimp only
    rw [dif_pos hv]
    exact this⟩
def sl_lv (G : Nat → Nat → Nat) (v p : Nat) : Int32 := nI (G v p) - 3 * ((1 : Int32) <<< (nI (sl_sz p) &&& 31))
theorem sl_t3 : ∀ z, z < 5 → 3 * ((1 : Int32) <<< (nI z &&& 31)) = nI (3 * 2 ^ z) ∧ 3 * 2 ^ z ≤ 48 := by decide +kernel
theorem sl_lvB {G : Nat → Nat → Nat} {v p : Nat} (hp : p < 16) (h : G v p ≤ 256) : -1000 ≤ (sl_lv G v p).toInt ∧ (sl_lv G v p).toInt ≤ 1000 := by
  have hz := sl_tSz p hp
  obtain ⟨e, h48⟩ := sl_t3 (sl_sz p) (by omega)
  unfold sl_lv
  rw [e, sl_subI (by omega) (by omega)]
  omega
theorem sl_lnXi {post : Int32 → SX → Prop} {J : Int32 → (Nat → Int32) → (Nat → Int32) → Prop} {cs : Int64} {v : Nat} {mp : Int32} {ek : Nat → Int32} {G : Nat → Nat → Nat} (hv : v < 4) (hG : ∀ v, v < 4 → ∀ p, sl_hG cs v p (G v p)) (hJ : ∀ A, (∀ w, w < v + 1 → ∀ d, d < 8 → A (w * 16 + sl_mk w d) = sl_lv G w (sl_mk w d)) → J (nI (v + 1)) A ek) : ∀ k p A, p + k = 16 → (∀ w, w < 4 → ∀ d, d < 8 → (w < v ∨ (w = v ∧ sl_mk w d < p)) → A (w * 16 + sl_mk w d) = sl_lv G w (sl_mk w d)) → wX_learn_10 post J cs (nI v) mp (k + 1) (nI p) A ek := by
  intro k
  induction k with
  | zero =>
    intro p A hp hA
    refine br_t (nI_le (a := 16) (by omega) (by omega)) (nm_r (nI_1 v) (hJ A (fun w hw d hd => hA w (by omega) d hd ?_)))
    have := (sl_tMk w (by omega) d hd).1
    omega
  | succ k ih =>
    intro p A hp hA
    have hp16 : p < 16 := by omega
    refine br_f (nI_ge (b := 16) hp16 (by decide)) ?_
    rcases sl_b01 p v with hb | hb
    · refine sl_imT hv hp16 hb (br_f (by decide) (sl_size hp16 (nm_e ((hG v hv p).2.1 _ ⟨sl_wIn hv hp16, nm_e (nm_r (nI_1 p) (ih (p + 1) _ (by omega) ?_))⟩))))
      intro w hw d hd hc
      rw [sl_ix, nI_clamp (by omega)]
      by_cases e : w * 16 + sl_mk w d = v * 16 + p
      · have m16 := (sl_tMk w hw d hd).1
        have e1 : w = v := by omega
        have e2 : sl_mk w d = p := by omega
        rw [e, pk_us, e2, e1]
        rfl
      · rw [pk_un e]
        refine hA w hw d hd ?_
        rcases hc with hc | ⟨hc1, hc2⟩
        · exact Or.inl hc
        · refine Or.inr ⟨hc1, ?_⟩
          subst hc1
          omega
    · refine sl_imF hv hp16 hb (br_t rfl (nm_r (nI_1 p) (ih (p + 1) A (by omega) ?_)))
      intro w hw d hd hc
      refine hA w hw d hd ?_
      rcases hc with hc | ⟨hc1, hc2⟩
      · exact Or.inl hc
      · refine Or.inr ⟨hc1, ?_⟩
        subst hc1
        have := (sl_tMk w hw d hd).2.1
        by_cases e : sl_mk w d = p
        · rw [e] at this
          omega
        · omega
theorem sl_lnXo {post : Int32 → SX → Prop} {cs : Int64} {mp : Int32} {ek : Nat → Int32} {G : Nat → Nat → Nat} (hG : ∀ v, v < 4 → ∀ p, sl_hG cs v p (G v p)) (hJ : ∀ A, (∀ w, w < 4 → ∀ d, d < 8 → A (w * 16 + sl_mk w d) = sl_lv G w (sl_mk w d)) → post 0 (mp, A, ek)) : ∀ k v A, v + k = 4 → (∀ w, w < v → ∀ d, d < 8 → A (w * 16 + sl_mk w d) = sl_lv G w (sl_mk w d)) → wX_learn_2 post cs mp (k + 1) (nI v) A ek := by
  intro k
  induction k with
  | zero =>
    intro v A hv hA
    exact br_t (nI_le (a := 4) (by omega) (by omega)) (hJ A (fun w hw => hA w (by omega)))
  | succ k ih =>
    intro v A hv hA
    refine br_f (nI_ge (b := 4) (by omega) (by decide)) ⟨17, sl_lnXi (by omega) hG (fun A' h' => ih (v + 1) A' (by omega) h') 16 0 A rfl ?_⟩
    intro w hw d hd hc
    exact hA w (by omega) d hd
theorem sl_lnYi {post : Int32 → SY → Prop} {J : Int32 → (Nat → Int32) → (Nat → Int32) → (Nat → Int32) → Prop} {cs : Int64} {v : Nat} {l kn m0 f : Int32} {ek c : Nat → Int32} {G : Nat → Nat → Nat} (hv : v < 4) (hG : ∀ v, v < 4 → ∀ p, sl_hG cs v p (G v p)) (hJ : ∀ B, (∀ w, w < v + 1 → ∀ d, d < 8 → B (w * 8 + d) = sl_lv G w (sl_mk w d)) → J (nI (v + 1)) B ek c) : ∀ k p B, p + k = 8 → (∀ w, w < 4 → ∀ d, d < 8 → (w < v ∨ (w = v ∧ d < p)) → B (w * 8 + d) = sl_lv G w (sl_mk w d)) → wY_learn_10 post J cs (nI v) l kn m0 f (k + 1) (nI p) B ek c := by
  intro k
  induction k with
  | zero =>
    intro p B hp hB
    refine br_t (nI_le (a := 8) (by omega) (by omega)) (nm_r (nI_1 v) (hJ B (fun w hw d hd => hB w (by omega) d hd ?_)))
    omega
  | succ k ih =>
    intro p B hp hB
    have hp8 : p < 8 := by omega
    have hm := (sl_tMk v hv p hp8).1
    refine br_f (nI_ge (b := 8) hp8 (by decide)) (sl_mask hv hp8 (sl_bits hm ((hG v hv _).2.2 _ _ _ _ _ _ _ _ ⟨sl_yIn hv hp8, nm_e (nm_r (nI_1 p) (ih (p + 1) _ (by omega) ?_))⟩)))
    intro w hw d hd hc
    rw [sl_ix8, nI_clamp (by omega)]
    by_cases e : w * 8 + d = v * 8 + p
    · have e1 : w = v := by omega
      have e2 : d = p := by omega
      rw [e, pk_us, e2, e1]
      rfl
    · rw [pk_un e]
      exact hB w hw d hd (by omega)
theorem sl_lnYo {post : Int32 → SY → Prop} {cs : Int64} {l kn m0 f : Int32} {ek c : Nat → Int32} {G : Nat → Nat → Nat} (hG : ∀ v, v < 4 → ∀ p, sl_hG cs v p (G v p)) (hJ : ∀ B, (∀ w, w < 4 → ∀ d, d < 8 → B (w * 8 + d) = sl_lv G w (sl_mk w d)) → post 0 (l, 0, m0, f, B, ek, c)) : ∀ k v B, v + k = 4 → (∀ w, w < v → ∀ d, d < 8 → B (w * 8 + d) = sl_lv G w (sl_mk w d)) → wY_learn_2 post cs l kn m0 f (k + 1) (nI v) B ek c := by
  intro k
  induction k with
  | zero =>
    intro v B hv hB
    exact br_t (nI_le (a := 4) (by omega) (by omega)) (hJ B (fun w hw => hB w (by omega)))
  | succ k ih =>
    intro v B hv hB
    refine br_f (nI_ge (b := 4) (by omega) (by decide)) ⟨9, sl_lnYi (by omega) hG (fun B' h' => ih (v + 1) B' (by omega) h') 8 0 B rfl ?_⟩
    intro w hw d hd hc
    exact hB w (by omega) d hd
theorem i_vc_learn {k : Nat} {u : SX} {v : SY} (I : i_Rel k u v) (hk : k + 4 ≤ 2048) (a0 : Int64) : wpX_learn (fun r u' => wpY_learn (fun r' v' => r' = r ∧ i_Rel (k + 4) u' v') v a0) u a0 := by
  obtain ⟨mp, sX, ek, kn, mo, fi, sY, c, rfl, rfl, hT, hc, hb, hk2⟩ := I
  obtain ⟨G, hG⟩ := sl_hAll a0
  refine ⟨5, sl_lnXo hG (fun A hA => ?_) 4 0 sX rfl (fun w hw => absurd hw (Nat.not_lt_zero w))⟩
  refine ⟨5, sl_lnYo hG (fun B hB => ⟨rfl, ?_⟩) 4 0 sY rfl (fun w hw => absurd hw (Nat.not_lt_zero w))⟩
  refine sl_rel0 (fun w hw d hd => by rw [hA w hw d hd, hB w hw d hd]) hc (fun w hw d hd => ?_)
  rw [hA w hw d hd]
  exact sl_lvB (sl_tMk w hw d hd).1 (hG w hw _).1
end
section
/-! orders: the mathematics -/
def sl_su (x B : Nat) : Bool := x &&& (15 - B) == 0
def sl_bq (Q : Nat → Bool) (f : Nat → Int32) (p : Nat) (g : Int32) : Int32 := if Q p = true then (if f p ≤ g then g else f p) else g
def sl_Q (mp : Int32) (ek : Nat → Int32) (v B p : Nat) : Bool := sl_su p B && sl_ax mp ek v p
def sl_bs (mp : Int32) (sc ek : Nat → Int32) (v B : Nat) : Int32 := sl_go (sl_bq (sl_Q mp ek v B) (fun p => sc (v * 16 + p))) 0 16 (-100000)
def sl_wi (mp : Int32) (sc ek : Nat → Int32) (a b c d : Nat) : Int32 :=
  if sl_bs mp sc ek a 0 = -100000 then -100000 else if sl_bs mp sc ek b (2 ^ a) = -100000 then -100000 else if sl_bs mp sc ek c (2 ^ a ||| 2 ^ b) = -100000 then -100000 else if sl_bs mp sc ek d (2 ^ a ||| 2 ^ b ||| 2 ^ c) = -100000 then -100000 else sl_bs mp sc ek a 0 + sl_bs mp sc ek b (2 ^ a) + sl_bs mp sc ek c (2 ^ a ||| 2 ^ b) + sl_bs mp sc ek d (2 ^ a ||| 2 ^ b ||| 2 ^ c)
def sl_fol (s a b c d : Nat) : Bool := (sl_mm s a == 0) && (sl_su (sl_mm s b) (2 ^ a) && (sl_su (sl_mm s c) (2 ^ a ||| 2 ^ b) && !(d == a)))
theorem sl_bsP {Q : Nat → Bool} {f : Nat → Int32} (hf : ∀ p, p < 16 → Q p = true → -1000 ≤ (f p).toInt) : (sl_go (sl_bq Q f) 0 16 (-100000) = -100000 ∧ ∀ p, p < 16 → Q p = false) ∨ ((∃ p, p < 16 ∧ Q p = true ∧ sl_go (sl_bq Q f) 0 16 (-100000) = f p) ∧ ∀ p, p < 16 → Q p = true → f p ≤ sl_go (sl_bq Q f) 0 16 (-100000)) := by
  have h := sl_go_inv (sl_bq Q f) (fun i g => (g = -100000 ∧ ∀ p, p < i → Q p = false) ∨ ((∃ p, p < i ∧ Q p = true ∧ g = f p) ∧ ∀ p, p < i → Q p = true → f p ≤ g)) 16 0 (-100000) ?_ (Or.inl ⟨rfl, fun p hp => absurd hp (Nat.not_lt_zero p)⟩)
  · rw [Nat.zero_add] at h
    exact h
  · intro j g _ hj hI
    have hj16 : j < 16 := by omega
    unfold sl_bq
    cases hq : Q j
    · rw [if_neg Bool.false_ne_true]
      rcases hI with ⟨e, h1⟩ | ⟨⟨p, hp, h1, h2⟩, h3⟩
      · refine Or.inl ⟨e, fun p hp => ?_⟩
        by_cases e : p = j
        · rw [e]; exact hq
        · exact h1 p (by omega)
      · refine Or.inr ⟨⟨p, by omega, h1, h2⟩, fun p hp hQ => ?_⟩
        by_cases e : p = j
        · rw [e, hq] at hQ; exact absurd hQ Bool.false_ne_true
        · exact h3 p (by omega) hQ
    · rw [if_pos rfl]
      by_cases hl : f j ≤ g
      · rw [if_pos hl]
        rcases hI with ⟨e, h1⟩ | ⟨⟨p, hp, h1, h2⟩, h3⟩
        · have b := hf j hj16 hq
          have := Int32.le_iff_toInt_le.mp hl
          rw [e, sl_NI] at this
          omega
        · refine Or.inr ⟨⟨p, by omega, h1, h2⟩, fun p hp hQ => ?_⟩
          by_cases e : p = j
          · rw [e]; exact hl
          · exact h3 p (by omega) hQ
      · rw [if_neg hl]
        refine Or.inr ⟨⟨j, by omega, hq, rfl⟩, fun p hp hQ => ?_⟩
        by_cases e : p = j
        · rw [e]; exact Int32.le_refl _
        · rcases hI with ⟨_, h1⟩ | ⟨_, h3⟩
          · rw [h1 p (by omega)] at hQ; exact absurd hQ Bool.false_ne_true
          · exact Int32.le_trans (h3 p (by omega) hQ) (Int32.le_of_lt (Int32.not_le.mp hl))
theorem sl_QF {mp : Int32} {ek : Nat → Int32} {v B p : Nat} (h : sl_Q mp ek v B p = true) : sl_su p B = true ∧ sl_b p v = 0 ∧ sl_ok mp ek v p = true := by
  unfold sl_Q sl_ax at h
  rw [Bool.and_eq_true, Bool.and_eq_true, beq_iff_eq] at h
  exact h
theorem sl_QT {mp : Int32} {ek : Nat → Int32} {v B p : Nat} (h1 : sl_su p B = true) (h2 : sl_b p v = 0) (h3 : sl_ok mp ek v p = true) : sl_Q mp ek v B p = true := by
  unfold sl_Q sl_ax
  rw [h1, h2, h3]
  rfl
theorem sl_bsB {mp : Int32} {sc ek : Nat → Int32} {v : Nat} (B : Nat) (hb : sl_bd sc) (hv : v < 4) : (sl_bs mp sc ek v B = -100000 ∧ ∀ p, p < 16 → sl_Q mp ek v B p = false) ∨ ((∃ p, p < 16 ∧ sl_Q mp ek v B p = true ∧ sl_bs mp sc ek v B = sc (v * 16 + p)) ∧ ∀ p, p < 16 → sl_Q mp ek v B p = true → sc (v * 16 + p) ≤ sl_bs mp sc ek v B) :=
  sl_bsP (Q := sl_Q mp ek v B) (f := fun p => sc (v * 16 + p)) (fun p hp hQ => (sl_bdm hb hv hp (sl_QF hQ).2.1).1)
def sl_dst (a b c d : Nat) : Bool := !(a == b || a == c || b == c || a == d || b == d || c == d)
theorem sl_dstT {a b c d : Nat} (h1 : ¬ a = b) (h2 : ¬ a = c) (h3 : ¬ b = c) (h4 : ¬ a = d) (h5 : ¬ b = d) (h6 : ¬ c = d) : sl_dst a b c d = true := by
  unfold sl_dst
  rw [beq_eq_false_iff_ne.mpr h1, beq_eq_false_iff_ne.mpr h2, beq_eq_false_iff_ne.mpr h3, beq_eq_false_iff_ne.mpr h4, beq_eq_false_iff_ne.mpr h5, beq_eq_false_iff_ne.mpr h6]
  rfl
def sl_inN (a b c d : Nat) : Bool := sl_al (fun pb => !(sl_su pb (2 ^ a)) || sl_al (fun pc => !(sl_su pc (2 ^ a ||| 2 ^ b)) || sl_al (fun pd => !(sl_su pd (2 ^ a ||| 2 ^ b ||| 2 ^ c)) || sl_nc (fun v => if v = a then 0 else if v = b then pb else if v = c then pc else pd)) 0 16) 0 16) 0 16
theorem sl_tInN : ∀ a, a < 4 → ∀ b, b < 4 → ∀ c, c < 4 → ∀ d, d < 4 → sl_dst a b c d = true → sl_inN a b c d = true := by decide +kernel
theorem sl_imp {x y : Bool} (h : (!x || y) = true) (hx : x = true) : y = true := by
  rw [hx] at h
  exact h
theorem sl_tNc (a : Nat) (ha : a < 4) (b : Nat) (hb : b < 4) (h1 : ¬ a = b) (c : Nat) (hc : c < 4) (h2 : ¬ a = c) (h3 : ¬ b = c) (d : Nat) (hd : d < 4) (h4 : ¬ a = d) (h5 : ¬ b = d) (h6 : ¬ c = d) (pb : Nat) (lb : pb < 16) (sb : sl_su pb (2 ^ a) = true) (pc : Nat) (lc : pc < 16) (sc : sl_su pc (2 ^ a ||| 2 ^ b) = true) (pd : Nat) (ld : pd < 16) (sd : sl_su pd (2 ^ a ||| 2 ^ b ||| 2 ^ c) = true) : sl_nc (fun v => if v = a then 0 else if v = b then pb else if v = c then pc else pd) = true := by
  have h := sl_tInN a ha b hb c hc d hd (sl_dstT h1 h2 h3 h4 h5 h6)
  unfold sl_inN at h
  have i1 := sl_imp ((sl_al_iff _ 16 0).mp h pb (by omega) (by omega)) sb
  have i2 := sl_imp ((sl_al_iff _ 16 0).mp i1 pc (by omega) (by omega)) sc
  exact sl_imp ((sl_al_iff _ 16 0).mp i2 pd (by omega) (by omega)) sd
theorem sl_tLas : ∀ a, a < 4 → ∀ b, b < 4 → ∀ c, c < 4 → ∀ d, d < 4 → sl_dst a b c d = true → sl_al (fun p => !(sl_b p d == 0) || sl_su p (2 ^ a ||| 2 ^ b ||| 2 ^ c)) 0 16 = true := by decide +kernel
theorem sl_tLast (a : Nat) (ha : a < 4) (b : Nat) (hb : b < 4) (h1 : ¬ a = b) (c : Nat) (hc : c < 4) (h2 : ¬ a = c) (h3 : ¬ b = c) (d : Nat) (hd : d < 4) (h4 : ¬ a = d) (h5 : ¬ b = d) (h6 : ¬ c = d) (p : Nat) (lp : p < 16) (hp : sl_b p d = 0) : sl_su p (2 ^ a ||| 2 ^ b ||| 2 ^ c) = true :=
  sl_imp ((sl_al_iff _ 16 0).mp (sl_tLas a ha b hb c hc d hd (sl_dstT h1 h2 h3 h4 h5 h6)) p (by omega) (by omega)) (beq_iff_eq.mpr hp)
theorem sl_tSu0 : ∀ p, p < 16 → sl_su p 0 = true → p = 0 := by decide +kernel
theorem sl_ncC {m m' : Nat → Nat} (h : ∀ v, v < 4 → m v = m' v) : sl_nc m = sl_nc m' := by
  have e : ∀ p, sl_go (sl_st m) 0 4 p = sl_go (sl_st m') 0 4 p := fun p => sl_go_congr _ _ 4 0 p (fun j _ hj q => by
    unfold sl_st
    rw [h j (by omega)])
  unfold sl_nc
  rw [sl_go_congr (fun _ p => sl_go (sl_st m) 0 4 p) (fun _ p => sl_go (sl_st m') 0 4 p) 4 0 0 (fun j _ _ q => e q)]
theorem sl_mkS {mp : Int32} {ek : Nat → Int32} (P : Nat → Nat) (h16 : ∀ v, v < 4 → P v < 16) (hcl : ∀ v, v < 4 → sl_b (P v) v = 0) (hok : ∀ v, v < 4 → sl_ok mp ek v (P v) = true) (hnc : sl_nc P = true) : ∃ s, s < 4096 ∧ (∀ v, v < 4 → sl_mm s v = P v) ∧ sl_aw mp ek s = true := by
  obtain ⟨u0, e0⟩ := sl_tUn 0 (by decide) _ (h16 0 (by decide)) (hcl 0 (by decide))
  obtain ⟨u1, e1⟩ := sl_tUn 1 (by decide) _ (h16 1 (by decide)) (hcl 1 (by decide))
  obtain ⟨u2, e2⟩ := sl_tUn 2 (by decide) _ (h16 2 (by decide)) (hcl 2 (by decide))
  obtain ⟨u3, e3⟩ := sl_tUn 3 (by decide) _ (h16 3 (by decide)) (hcl 3 (by decide))
  obtain ⟨m0, m1, m2, m3⟩ := sl_mmO u0 u1 u2 u3
  have hm : ∀ v, v < 4 → sl_mm (sl_sO (sl_un 0 (P 0)) (sl_un 1 (P 1)) (sl_un 2 (P 2)) (sl_un 3 (P 3))) v = P v :=
    fun v hv => sl_c4 (P := fun v => sl_mm (sl_sO (sl_un 0 (P 0)) (sl_un 1 (P 1)) (sl_un 2 (P 2)) (sl_un 3 (P 3))) v = P v) (m0.trans e0) (m1.trans e1) (m2.trans e2) (m3.trans e3) hv
  refine ⟨_, sl_sO4 u0 u1 u2 u3, hm, ?_⟩
  unfold sl_aw
  rw [sl_ncC hm, hnc, Bool.true_and, sl_al_iff]
  intro v _ hv
  rw [hm v (by omega)]
  exact hok v (by omega)
theorem sl_pS (f : Nat → Int) {a b c d : Nat} (ha : a < 4) (hb : b < 4) (hc : c < 4) (hd : d < 4) (h1 : ¬ a = b) (h2 : ¬ a = c) (h3 : ¬ b = c) (h4 : ¬ a = d) (h5 : ¬ b = d) (h6 : ¬ c = d) : f 0 + f 1 + f 2 + f 3 = f a + f b + f c + f d := by
  rcases (show a = 0 ∨ a = 1 ∨ a = 2 ∨ a = 3 by omega) with rfl | rfl | rfl | rfl <;>
  rcases (show b = 0 ∨ b = 1 ∨ b = 2 ∨ b = 3 by omega) with rfl | rfl | rfl | rfl <;> (try exact absurd rfl h1) <;>
  rcases (show c = 0 ∨ c = 1 ∨ c = 2 ∨ c = 3 by omega) with rfl | rfl | rfl | rfl <;> (try exact absurd rfl h2) <;> (try exact absurd rfl h3) <;>
  rcases (show d = 0 ∨ d = 1 ∨ d = 2 ∨ d = 3 by omega) with rfl | rfl | rfl | rfl <;> (try exact absurd rfl h4) <;> (try exact absurd rfl h5) <;> (try exact absurd rfl h6) <;>
  omega
theorem sl_woP {sc : Nat → Int32} (hb : sl_bd sc) (s : Nat) {a b c d : Nat} (ha : a < 4) (hb4 : b < 4) (hc : c < 4) (hd : d < 4) (h1 : ¬ a = b) (h2 : ¬ a = c) (h3 : ¬ b = c) (h4 : ¬ a = d) (h5 : ¬ b = d) (h6 : ¬ c = d) : (sl_wo sc s).toInt = (sc (a * 16 + sl_mm s a)).toInt + (sc (b * 16 + sl_mm s b)).toInt + (sc (c * 16 + sl_mm s c)).toInt + (sc (d * 16 + sl_mm s d)).toInt :=
  (sl_woI hb s).trans (sl_pS (fun v => (sc (v * 16 + sl_mm s v)).toInt) ha hb4 hc hd h1 h2 h3 h4 h5 h6)
/-- from four chosen masks, each within what stands before it: the structure -/
theorem sl_put {mp : Int32} {sc ek : Nat → Int32} (hbd : sl_bd sc) {a b c d pa pb pc pd : Nat} (ha : a < 4) (hb4 : b < 4) (hc : c < 4) (hd : d < 4) (h1 : ¬ a = b) (h2 : ¬ a = c) (h3 : ¬ b = c) (h4 : ¬ a = d) (h5 : ¬ b = d) (h6 : ¬ c = d) (la : pa < 16) (lb : pb < 16) (lc : pc < 16) (ld : pd < 16) (qa : sl_Q mp ek a 0 pa = true) (qb : sl_Q mp ek b (2 ^ a) pb = true) (qc : sl_Q mp ek c (2 ^ a ||| 2 ^ b) pc = true) (qd : sl_Q mp ek d (2 ^ a ||| 2 ^ b ||| 2 ^ c) pd = true) : ∃ s, s < 4096 ∧ sl_aw mp ek s = true ∧ sl_fol s a b c d = true ∧ (sl_wo sc s).toInt = (sc (a * 16 + pa)).toInt + (sc (b * 16 + pb)).toInt + (sc (c * 16 + pc)).toInt + (sc (d * 16 + pd)).toInt := by
  obtain ⟨sa, ca, oa⟩ := sl_QF qa
  obtain ⟨sb, cb, ob⟩ := sl_QF qb
  obtain ⟨sc', cc, oc⟩ := sl_QF qc
  obtain ⟨sd, cd, od⟩ := sl_QF qd
  have ea : pa = 0 := sl_tSu0 pa la sa
  have hnc := sl_tNc a ha b hb4 h1 c hc h2 h3 d hd h4 h5 h6 pb lb sb pc lc sc' pd ld sd
  rw [← ea] at hnc
  have pA : (fun v => if v = a then pa else if v = b then pb else if v = c then pc else pd) a = pa := if_pos rfl
  have pB : (fun v => if v = a then pa else if v = b then pb else if v = c then pc else pd) b = pb := by
    show (if b = a then pa else if b = b then pb else if b = c then pc else pd) = pb
    rw [if_neg (fun e => h1 e.symm), if_pos rfl]
  have pC : (fun v => if v = a then pa else if v = b then pb else if v = c then pc else pd) c = pc := by
    show (if c = a then pa else if c = b then pb else if c = c then pc else pd) = pc
    rw [if_neg (fun e => h2 e.symm), if_neg (fun e => h3 e.symm), if_pos rfl]
  have pD : (fun v => if v = a then pa else if v = b then pb else if v = c then pc else pd) d = pd := by
    show (if d = a then pa else if d = b then pb else if d = c then pc else pd) = pd
    rw [if_neg (fun e => h4 e.symm), if_neg (fun e => h5 e.symm), if_neg (fun e => h6 e.symm)]
  generalize (fun v => if v = a then pa else if v = b then pb else if v = c then pc else pd) = P at *
  have hv4 : ∀ v, v < 4 → v = a ∨ v = b ∨ v = c ∨ v = d := fun v hv => by omega
  have hall : ∀ v, v < 4 → P v < 16 ∧ sl_b (P v) v = 0 ∧ sl_ok mp ek v (P v) = true := by
    intro v hv
    rcases hv4 v hv with rfl | rfl | rfl | rfl
    · rw [pA]; exact ⟨la, ca, oa⟩
    · rw [pB]; exact ⟨lb, cb, ob⟩
    · rw [pC]; exact ⟨lc, cc, oc⟩
    · rw [pD]; exact ⟨ld, cd, od⟩
  obtain ⟨s, hs, hm, haw⟩ := sl_mkS (mp := mp) (ek := ek) P (fun v hv => (hall v hv).1) (fun v hv => (hall v hv).2.1) (fun v hv => (hall v hv).2.2) hnc
  have mA := (hm a ha).trans pA
  have mB := (hm b hb4).trans pB
  have mC := (hm c hc).trans pC
  have mD := (hm d hd).trans pD
  refine ⟨s, hs, haw, ?_, ?_⟩
  · unfold sl_fol
    rw [mA, mB, mC, ea, sb, sc', beq_eq_false_iff_ne.mpr (fun e => h4 e.symm)]
    rfl
  · rw [sl_woP hbd s ha hb4 hc hd h1 h2 h3 h4 h5 h6, mA, mB, mC, mD]
theorem sl_sum4 {w x y z : Int32} (hw : -1000 ≤ w.toInt ∧ w.toInt ≤ 1000) (hx : -1000 ≤ x.toInt ∧ x.toInt ≤ 1000) (hy : -1000 ≤ y.toInt ∧ y.toInt ≤ 1000) (hz : -1000 ≤ z.toInt ∧ z.toInt ≤ 1000) : (w + x + y + z).toInt = w.toInt + x.toInt + y.toInt + z.toInt := by
  have e1 := sl_addI (a := w) (b := x) (by omega) (by omega) (by omega) (by omega)
  have e2 := sl_addI (a := w + x) (b := y) (by omega) (by omega) (by omega) (by omega)
  have e3 := sl_addI (a := w + x + y) (b := z) (by omega) (by omega) (by omega) (by omega)
  omega
theorem sl_nN {x : Int32} (h : -1000 ≤ x.toInt) : ¬ x = -100000 := by
  intro e
  rw [e, sl_NI] at h
  omega
theorem sl_wiE {mp : Int32} {sc ek : Nat → Int32} {a b c d : Nat} (n1 : ¬ sl_bs mp sc ek a 0 = -100000) (n2 : ¬ sl_bs mp sc ek b (2 ^ a) = -100000) (n3 : ¬ sl_bs mp sc ek c (2 ^ a ||| 2 ^ b) = -100000) (n4 : ¬ sl_bs mp sc ek d (2 ^ a ||| 2 ^ b ||| 2 ^ c) = -100000) : sl_wi mp sc ek a b c d = sl_bs mp sc ek a 0 + sl_bs mp sc ek b (2 ^ a) + sl_bs mp sc ek c (2 ^ a ||| 2 ^ b) + sl_bs mp sc ek d (2 ^ a ||| 2 ^ b ||| 2 ^ c) := by
  unfold sl_wi
  rw [if_neg n1, if_neg n2, if_neg n3, if_neg n4]
theorem sl_awF {mp : Int32} {ek : Nat → Int32} {s v : Nat} (h : sl_aw mp ek s = true) (hv : v < 4) : sl_ok mp ek v (sl_mm s v) = true := by
  unfold sl_aw at h
  rw [Bool.and_eq_true, sl_al_iff] at h
  exact h.2 v (by omega) (by omega)
/-- the key of orders -/
theorem sl_key {mp : Int32} {sc ek : Nat → Int32} {g : Int32} (hbd : sl_bd sc) (hg : ∀ s, s < 4096 → sl_aw mp ek s = true → sl_wo sc s ≤ g) (hgN : ¬ g = -100000) {a b c d : Nat} (ha : a < 4) (hb4 : b < 4) (hc : c < 4) (hd : d < 4) (h1 : ¬ a = b) (h2 : ¬ a = c) (h3 : ¬ b = c) (h4 : ¬ a = d) (h5 : ¬ b = d) (h6 : ¬ c = d) : (∃ s, s < 4096 ∧ sl_fol s a b c d = true ∧ sl_wo sc s = g ∧ sl_aw mp ek s = true) ↔ sl_wi mp sc ek a b c d = g := by
  have A := sl_bsB (mp := mp) (ek := ek) 0 hbd ha
  have B := sl_bsB (mp := mp) (ek := ek) (2 ^ a) hbd hb4
  have C := sl_bsB (mp := mp) (ek := ek) (2 ^ a ||| 2 ^ b) hbd hc
  have D := sl_bsB (mp := mp) (ek := ek) (2 ^ a ||| 2 ^ b ||| 2 ^ c) hbd hd
  constructor
  · intro ⟨s, hs, hf, hw, haw⟩
    unfold sl_fol at hf
    rw [Bool.and_eq_true, Bool.and_eq_true, Bool.and_eq_true, beq_iff_eq] at hf
    obtain ⟨f1, f2, f3, _⟩ := hf
    have qa : sl_Q mp ek a 0 (sl_mm s a) = true := sl_QT (by rw [f1]; rfl) (sl_mmb ha) (sl_awF haw ha)
    have qb : sl_Q mp ek b (2 ^ a) (sl_mm s b) = true := sl_QT f2 (sl_mmb hb4) (sl_awF haw hb4)
    have qc : sl_Q mp ek c (2 ^ a ||| 2 ^ b) (sl_mm s c) = true := sl_QT f3 (sl_mmb hc) (sl_awF haw hc)
    have qd : sl_Q mp ek d (2 ^ a ||| 2 ^ b ||| 2 ^ c) (sl_mm s d) = true := sl_QT (sl_tLast a ha b hb4 h1 c hc h2 h3 d hd h4 h5 h6 _ (sl_mm16 hd) (sl_mmb hd)) (sl_mmb hd) (sl_awF haw hd)
    rcases A with ⟨_, A⟩ | ⟨⟨pa, la, Qa, ea⟩, A⟩
    · rw [A _ (sl_mm16 ha)] at qa; exact absurd qa Bool.false_ne_true
    rcases B with ⟨_, B⟩ | ⟨⟨pb, lb, Qb, eb⟩, B⟩
    · rw [B _ (sl_mm16 hb4)] at qb; exact absurd qb Bool.false_ne_true
    rcases C with ⟨_, C⟩ | ⟨⟨pc, lc, Qc, ec⟩, C⟩
    · rw [C _ (sl_mm16 hc)] at qc; exact absurd qc Bool.false_ne_true
    rcases D with ⟨_, D⟩ | ⟨⟨pd, ld, Qd, ed⟩, D⟩
    · rw [D _ (sl_mm16 hd)] at qd; exact absurd qd Bool.false_ne_true
    have ba := sl_bdm hbd ha la (sl_QF Qa).2.1
    have bb := sl_bdm hbd hb4 lb (sl_QF Qb).2.1
    have bc := sl_bdm hbd hc lc (sl_QF Qc).2.1
    have bd := sl_bdm hbd hd ld (sl_QF Qd).2.1
    have ga := Int32.le_iff_toInt_le.mp (A _ (sl_mm16 ha) qa)
    have gb := Int32.le_iff_toInt_le.mp (B _ (sl_mm16 hb4) qb)
    have gc := Int32.le_iff_toInt_le.mp (C _ (sl_mm16 hc) qc)
    have gd := Int32.le_iff_toInt_le.mp (D _ (sl_mm16 hd) qd)
    have ws := sl_woP hbd s ha hb4 hc hd h1 h2 h3 h4 h5 h6
    rw [← ea] at ba
    rw [← eb] at bb
    rw [← ec] at bc
    rw [← ed] at bd
    obtain ⟨s', hs', haw', _, hw'⟩ := sl_put hbd ha hb4 hc hd h1 h2 h3 h4 h5 h6 la lb lc ld Qa Qb Qc Qd
    have gs := Int32.le_iff_toInt_le.mp (hg s' hs' haw')
    rw [← ea, ← eb, ← ec, ← ed] at hw'
    rw [sl_wiE (sl_nN ba.1) (sl_nN bb.1) (sl_nN bc.1) (sl_nN bd.1)]
    apply Int32.toInt_inj.mp
    rw [sl_sum4 ba bb bc bd]
    have hw2 := congrArg Int32.toInt hw
    omega
  · intro hwi
    have hN : ¬ sl_wi mp sc ek a b c d = -100000 := by rw [hwi]; exact hgN
    rcases A with ⟨e, _⟩ | ⟨⟨pa, la, Qa, ea⟩, A⟩
    · exact absurd (by unfold sl_wi; rw [if_pos e]) hN
    have ba := sl_bdm hbd ha la (sl_QF Qa).2.1
    rw [← ea] at ba
    rcases B with ⟨e, _⟩ | ⟨⟨pb, lb, Qb, eb⟩, B⟩
    · exact absurd (by unfold sl_wi; rw [if_neg (sl_nN ba.1), if_pos e]) hN
    have bb := sl_bdm hbd hb4 lb (sl_QF Qb).2.1
    rw [← eb] at bb
    rcases C with ⟨e, _⟩ | ⟨⟨pc, lc, Qc, ec⟩, C⟩
    · exact absurd (by unfold sl_wi; rw [if_neg (sl_nN ba.1), if_neg (sl_nN bb.1), if_pos e]) hN
    have bc := sl_bdm hbd hc lc (sl_QF Qc).2.1
    rw [← ec] at bc
    rcases D with ⟨e, _⟩ | ⟨⟨pd, ld, Qd, ed⟩, D⟩
    · exact absurd (by unfold sl_wi; rw [if_neg (sl_nN ba.1), if_neg (sl_nN bb.1), if_neg (sl_nN bc.1), if_pos e]) hN
    have bd := sl_bdm hbd hd ld (sl_QF Qd).2.1
    rw [← ed] at bd
    obtain ⟨s', hs', haw', hf', hw'⟩ := sl_put hbd ha hb4 hc hd h1 h2 h3 h4 h5 h6 la lb lc ld Qa Qb Qc Qd
    rw [← ea, ← eb, ← ec, ← ed] at hw'
    refine ⟨s', hs', hf', ?_, haw'⟩
    rw [← hwi, sl_wiE (sl_nN ba.1) (sl_nN bb.1) (sl_nN bc.1) (sl_nN bd.1)]
    apply Int32.toInt_inj.mp
    rw [sl_sum4 ba bb bc bd]
    exact hw'
end
section
/-! orders: the walks, and the counting -/
theorem sl_bsL {post : Int32 → Prop} {mp : Int32} {sc ek : Nat → Int32} {v B : Nat} (hv : v < 4) (hB : B < 16) : ∀ k p g, p + k = 16 → post (sl_go (sl_bq (sl_Q mp ek v B) (fun p => sc (v * 16 + p))) p k g) → wX_bestScoreFrom_6 post (nI v) (nI B) mp sc ek (k + 1) g (nI p) := by
  intro k
  induction k with
  | zero =>
    intro p g hp h
    exact br_t (nI_le (a := 16) (by omega) (by omega)) h
  | succ k ih =>
    intro p g hp h
    have hp16 : p < 16 := by omega
    have hr := fun g' (e : sl_bq (sl_Q mp ek v B) (fun p => sc (v * 16 + p)) p g = g') => ih (p + 1) g' (by omega) (by rw [← e]; exact h)
    refine br_f (nI_ge (b := 16) hp16 (by decide)) ?_
    have hsu : (nI p &&& (nI B ^^^ (-1))) = 0 ↔ sl_su p B = true := by
      rw [sl_tSub p hp16 B hB]
      unfold sl_su
      exact beq_iff_eq.symm
    cases hs : sl_su p B
    · have e : sl_bq (sl_Q mp ek v B) (fun p => sc (v * 16 + p)) p g = g := by
        unfold sl_bq sl_Q
        rw [hs]
        rfl
      exact br_f (fun z => by rw [hsu, hs] at z; exact absurd z Bool.false_ne_true) (nm_r (nI_1 p) (hr g e))
    · refine br_t (hsu.mpr hs) (sl_isA mp sc ek hv hp16 ?_)
      cases ha : sl_ax mp ek v p
      · have e : sl_bq (sl_Q mp ek v B) (fun p => sc (v * 16 + p)) p g = g := by
          unfold sl_bq sl_Q
          rw [hs, ha]
          rfl
        exact br_t rfl (nm_r (nI_1 p) (hr g e))
      · have hQ : sl_Q mp ek v B p = true := by
          unfold sl_Q
          rw [hs, ha]
          rfl
        refine br_f (by decide) ⟨sl_wIn hv hp16, nm_r (sl_wAt sc hv hp16) ?_⟩
        by_cases hl : sc (v * 16 + p) ≤ g
        · refine br_t hl (nm_r (nI_1 p) (hr g ?_))
          unfold sl_bq
          rw [if_pos hQ, if_pos hl]
        · refine br_f hl (nm_r (nI_1 p) (hr _ ?_))
          unfold sl_bq
          rw [if_pos hQ, if_neg hl]
theorem sl_bsX {post : Int32 → Prop} {mp : Int32} {sc ek : Nat → Int32} {v B : Nat} (hv : v < 4) (hB : B < 16) (h : post (sl_bs mp sc ek v B)) : wpX_bestScoreFrom post (mp, sc, ek) (nI v) (nI B) := by
  unfold sl_bs at h
  exact ⟨17, sl_bsL hv hB 16 0 _ rfl h⟩
theorem sl_t1s : ∀ a, a < 4 → (1 : Int32) <<< (nI a &&& 31) = nI (2 ^ a) ∧ 2 ^ a < 16 := by decide +kernel
theorem sl_wiX {post : Int32 → Prop} {mp : Int32} {sc ek : Nat → Int32} {a b c d : Nat} (ha : a < 4) (hb : b < 4) (hc : c < 4) (hd : d < 4) (hs : a + b + c + d = 6) (h : post (sl_wi mp sc ek a b c d)) : wpX_worthInOrder post (mp, sc, ek) (nI a) (nI b) (nI c) := by
  obtain ⟨e1, l1⟩ := sl_t1s a ha
  obtain ⟨e2, l2⟩ := sl_tOr (2 ^ a) l1 b hb
  obtain ⟨e3, l3⟩ := sl_tOr (2 ^ a ||| 2 ^ b) l2 c hc
  have e6 : ((6 - nI a) - nI b) - nI c = nI d := by
    show ((nI 6 - nI a) - nI b) - nI c = nI d
    rw [pk_sub (by omega), pk_sub (by omega), pk_sub (by omega)]
    exact congrArg nI (by omega)
  unfold wpX_worthInOrder
  dsimp only
  refine nm_r e1 (nm_r e2 (nm_r e3 ?_))
  rw [e6]
  refine sl_bsX (B := 0) ha (by decide) (sl_bsX hb l1 (sl_bsX hc l2 (sl_bsX hd l3 ?_)))
  unfold sl_wi at h
  refine br_c (fun n1 => ?_) (fun n1 => br_c (fun n2 => ?_) (fun n2 => br_c (fun n3 => ?_) (fun n3 => br_c (fun n4 => ?_) (fun n4 => ?_))))
  · rw [if_pos n1] at h; exact h
  · rw [if_neg n1, if_pos n2] at h; exact h
  · rw [if_neg n1, if_neg n2, if_pos n3] at h; exact h
  · rw [if_neg n1, if_neg n2, if_neg n3, if_pos n4] at h; exact h
  · rw [if_neg n1, if_neg n2, if_neg n3, if_neg n4] at h; exact h
def sl_ct (Q : Nat → Bool) (i n : Nat) : Nat := if Q i = true then n + 1 else n
def sl_xq (mp : Int32) (sc ek : Nat → Int32) (g : Int32) (a b c : Nat) : Bool := (!(a == b) && (!(a == c) && !(b == c))) && decide (sl_wi mp sc ek a b c (6 - a - b - c) = g)
theorem sl_ctF {Q : Nat → Bool} {i n : Nat} (h : Q i = false) : sl_ct Q i n = n := by
  unfold sl_ct
  rw [h]
  rfl
theorem sl_ctT {Q : Nat → Bool} {i n : Nat} (h : Q i = true) : sl_ct Q i n = n + 1 := if_pos h
theorem sl_ctE {Q R : Nat → Bool} {i j n : Nat} (h : Q i = R j) : sl_ct Q i n = sl_ct R j n := by
  unfold sl_ct
  rw [h]
theorem sl_o44 {post : Int32 → Prop} {J26 J35 : Int32 → Int32 → Prop} {mp g : Int32} {sc ek : Nat → Int32} {a b : Nat} (ha : a < 4) (hb : b < 4) : ∀ k c n, c + k = 4 → J35 (nI (sl_go (sl_ct (sl_xq mp sc ek g a b)) c k n)) (nI (b + 1)) → wX_orders_44 post J26 J35 g (nI a) (nI b) mp sc ek (k + 1) (nI n) (nI c) := by
  intro k
  induction k with
  | zero =>
    intro c n hc h
    exact br_t (nI_le (a := 4) (by omega) (by omega)) (nm_r (nI_1 b) h)
  | succ k ih =>
    intro c n hc h
    have hc4 : c < 4 := by omega
    have hr := fun n' (e : sl_ct (sl_xq mp sc ek g a b) c n = n') => ih (c + 1) n' (by omega) (by rw [← e]; exact h)
    refine br_f (nI_ge (b := 4) hc4 (by decide)) ?_
    refine pk_eq a b (fun e => nm_r (nI_1 c) (hr n (sl_ctF ?_))) (fun e1 => pk_eq a c (fun e => nm_r (nI_1 c) (hr n (sl_ctF ?_))) (fun e2 => pk_eq b c (fun e => nm_r (nI_1 c) (hr n (sl_ctF ?_))) (fun e3 => ?_)))
    · unfold sl_xq
      rw [beq_iff_eq.mpr e]
      rfl
    · unfold sl_xq
      rw [beq_iff_eq.mpr e, beq_eq_false_iff_ne.mpr e1]
      rfl
    · unfold sl_xq
      rw [beq_iff_eq.mpr e, beq_eq_false_iff_ne.mpr e1, beq_eq_false_iff_ne.mpr e2]
      rfl
    · refine sl_wiX (d := 6 - a - b - c) ha hb hc4 (by omega) (by omega) ?_
      have hx : sl_xq mp sc ek g a b c = decide (sl_wi mp sc ek a b c (6 - a - b - c) = g) := by
        unfold sl_xq
        rw [beq_eq_false_iff_ne.mpr e1, beq_eq_false_iff_ne.mpr e2, beq_eq_false_iff_ne.mpr e3]
        rfl
      by_cases hw : sl_wi mp sc ek a b c (6 - a - b - c) = g
      · exact br_t hw (nm_r (nI_1 n) (nm_r (nI_1 c) (hr _ (sl_ctT (hx.trans (decide_eq_true hw))))))
      · exact br_f hw (nm_r (nI_1 c) (hr n (sl_ctF (hx.trans (decide_eq_false hw)))))
theorem sl_o35 {post : Int32 → Prop} {J26 : Int32 → Int32 → Prop} {mp g : Int32} {sc ek : Nat → Int32} {a : Nat} (ha : a < 4) : ∀ k b n, b + k = 4 → J26 (nI (sl_go (fun b n => sl_go (sl_ct (sl_xq mp sc ek g a b)) 0 4 n) b k n)) (nI (a + 1)) → wX_orders_35 post J26 g (nI a) mp sc ek (k + 1) (nI n) (nI b) := by
  intro k
  induction k with
  | zero =>
    intro b n hb h
    exact br_t (nI_le (a := 4) (by omega) (by omega)) (nm_r (nI_1 a) h)
  | succ k ih =>
    intro b n hb h
    exact br_f (nI_ge (b := 4) (by omega) (by decide)) ⟨5, sl_o44 ha (by omega) 4 0 n rfl (ih (b + 1) _ (by omega) h)⟩
theorem sl_o26 {post : Int32 → Prop} {mp g : Int32} {sc ek : Nat → Int32} : ∀ k a n, a + k = 4 → post (nI (sl_go (fun a n => sl_go (fun b n => sl_go (sl_ct (sl_xq mp sc ek g a b)) 0 4 n) 0 4 n) a k n)) → wX_orders_26 post g mp sc ek (k + 1) (nI n) (nI a) := by
  intro k
  induction k with
  | zero =>
    intro a n ha h
    exact br_t (nI_le (a := 4) (by omega) (by omega)) h
  | succ k ih =>
    intro a n ha h
    exact br_f (nI_ge (b := 4) (by omega) (by decide)) ⟨5, sl_o35 (by omega) 4 0 n rfl (ih (a + 1) _ (by omega) h)⟩
theorem sl_suI {x B : Nat} (hx : x < 16) (hB : B < 16) : (nI x &&& (nI B ^^^ (-1))) = 0 ↔ sl_su x B = true := by
  rw [sl_tSub x hx B hB]
  unfold sl_su
  exact beq_iff_eq.symm
theorem sl_folY {post : Int32 → Prop} {u : SY} {s a b c d : Nat} (hs : s < 4096) (ha : a < 4) (hb : b < 4) (hc : c < 4) (hd : d < 4) (h : post (sl_I (sl_fol s a b c d))) : wpY_follows post u (nI s) (nI a) (nI b) (nI c) (nI d) := by
  obtain ⟨l, k, m, f, x, y, z⟩ := u
  obtain ⟨e1, l1⟩ := sl_t1s a ha
  obtain ⟨e2, l2⟩ := sl_tOr (2 ^ a) l1 b hb
  unfold wpY_follows
  dsimp only
  refine sl_parO hs ha (sl_parO hs hb (sl_parO hs hc ?_))
  rw [e1, e2]
  have ma := sl_mm16 (s := s) ha
  have mb := sl_mm16 (s := s) hb
  have mc := sl_mm16 (s := s) hc
  unfold sl_fol at h
  refine pk_eq (sl_mm s a) 0 (fun c1 => ?_) (fun c1 => ?_)
  · rw [beq_iff_eq.mpr c1, Bool.true_and] at h
    cases c2 : sl_su (sl_mm s b) (2 ^ a)
    · rw [c2] at h
      exact br_f (fun z => by rw [sl_suI mb l1, c2] at z; exact absurd z Bool.false_ne_true) h
    · rw [c2, Bool.true_and] at h
      refine br_t ((sl_suI mb l1).mpr c2) ?_
      cases c3 : sl_su (sl_mm s c) (2 ^ a ||| 2 ^ b)
      · rw [c3] at h
        exact br_f (fun z => by rw [sl_suI mc l2, c3] at z; exact absurd z Bool.false_ne_true) h
      · rw [c3, Bool.true_and] at h
        refine br_t ((sl_suI mc l2).mpr c3) (pk_eq d a (fun c4 => ?_) (fun c4 => ?_))
        · rw [beq_iff_eq.mpr c4] at h
          exact h
        · rw [beq_eq_false_iff_ne.mpr c4] at h
          exact h
  · rw [beq_eq_false_iff_ne.mpr c1] at h
    exact h
def sl_F (mp : Int32) (sc ek : Nat → Int32) (g : Int32) (a b c d s : Nat) : Bool := sl_fol s a b c d && (decide (sl_wo sc s = g) && sl_aw mp ek s)
def sl_sf (mp : Int32) (sc ek : Nat → Int32) (g : Int32) (a b c d : Nat) : Bool := sl_an (sl_F mp sc ek g a b c d) 0 4096
theorem sl_sfL {post : Int32 → Prop} {l kn g f : Int32} {sX x y z : Nat → Int32} (hT : sl_sT sX x) (hz : sl_nT z) {a b c d : Nat} (ha : a < 4) (hb : b < 4) (hc : c < 4) (hd : d < 4) : ∀ k s, s + k = 4096 → post (sl_I (sl_an (sl_F l sX y g a b c d) s k)) → wY_someFollows_3 post (nI a) (nI b) (nI c) (nI d) l kn g f x y z (k + 1) (nI s) := by
  intro k
  induction k with
  | zero =>
    intro s hs h
    exact br_t (nI_le (a := 4096) (by omega) (by omega)) h
  | succ k ih =>
    intro s hs h
    have h4 : s < 4096 := by omega
    have h' : post (sl_I (sl_F l sX y g a b c d s || sl_an (sl_F l sX y g a b c d) (s + 1) k)) := h
    have hr : sl_F l sX y g a b c d s = false → wY_someFollows_3 post (nI a) (nI b) (nI c) (nI d) l kn g f x y z (k + 1) (nI (s + 1)) := fun e => ih (s + 1) (by omega) (by rw [e] at h'; exact h')
    refine br_f (nI_ge (b := 4096) h4 (by decide)) (sl_folY h4 ha hb hc hd ?_)
    cases hf : sl_fol s a b c d
    · exact br_t rfl (nm_r (nI_1 s) (hr (by unfold sl_F; rw [hf]; rfl)))
    · refine br_f (by decide) (sl_woY hT h4 ?_)
      by_cases hw : sl_wo sX s = g
      · refine br_t hw (sl_awY hz h4 ?_)
        cases haw : sl_aw l y s
        · exact br_t rfl (nm_r (nI_1 s) (hr (by unfold sl_F; rw [haw, Bool.and_false, Bool.and_false])))
        · refine br_f (by decide) ?_
          have e : sl_F l sX y g a b c d s = true := by unfold sl_F; rw [hf, haw, decide_eq_true hw]; rfl
          rw [e] at h'
          exact h'
      · exact br_f hw (nm_r (nI_1 s) (hr (by unfold sl_F; rw [decide_eq_false hw, Bool.false_and, Bool.and_false])))
theorem sl_sfY {post : Int32 → Prop} {l kn g f : Int32} {sX x y z : Nat → Int32} (hT : sl_sT sX x) (hz : sl_nT z) {a b c d : Nat} (ha : a < 4) (hb : b < 4) (hc : c < 4) (hd : d < 4) (h : post (sl_I (sl_sf l sX y g a b c d))) : wpY_someFollows post (l, kn, g, f, x, y, z) (nI a) (nI b) (nI c) (nI d) := by
  unfold sl_sf at h
  exact ⟨4097, sl_sfL hT hz ha hb hc hd 4096 0 rfl h⟩
def sl_prm (t : Nat) : Bool := 2 ^ (t % 4) ||| 2 ^ (t / 4 % 4) ||| 2 ^ (t / 16 % 4) ||| 2 ^ (t / 64 % 4) == 15
theorem sl_tCode : ∀ t, t < 256 → nI t &&& 3 = nI (t % 4) ∧ (nI t >>> ((2 : Int32) &&& 31)) &&& 3 = nI (t / 4 % 4) ∧ (nI t >>> ((4 : Int32) &&& 31)) &&& 3 = nI (t / 16 % 4) ∧ (nI t >>> ((6 : Int32) &&& 31)) &&& 3 = nI (t / 64 % 4) := by decide +kernel
theorem sl_tPrm : ∀ t, t < 256 → (((((1 : Int32) <<< (nI (t % 4) &&& 31)) ||| ((1 : Int32) <<< (nI (t / 4 % 4) &&& 31))) ||| ((1 : Int32) <<< (nI (t / 16 % 4) &&& 31))) ||| ((1 : Int32) <<< (nI (t / 64 % 4) &&& 31)) = 15 ↔ sl_prm t = true) := by decide +kernel
def sl_yr (mp : Int32) (sc ek : Nat → Int32) (g : Int32) (t : Nat) : Bool := sl_sf mp sc ek g (t % 4) (t / 4 % 4) (t / 16 % 4) (t / 64 % 4)
theorem sl_oY {post : Int32 → SY → Prop} {l kn g f : Int32} {sX x y z : Nat → Int32} (hT : sl_sT sX x) (hz : sl_nT z) : ∀ k t n, t + k = 256 → post (nI (sl_go (sl_ct (fun t => sl_prm t && sl_yr l sX y g t)) t k n)) (l, kn, g, f, x, y, z) → wY_orders_19 post l kn g f x y z (k + 1) (nI n) (nI t) := by
  intro k
  induction k with
  | zero =>
    intro t n ht h
    exact br_t (nI_le (a := 256) (by omega) (by omega)) h
  | succ k ih =>
    intro t n ht h
    have h256 : t < 256 := by omega
    obtain ⟨ea, eb, ec, ed⟩ := sl_tCode t h256
    have hr := fun n' (e : sl_ct (fun t => sl_prm t && sl_yr l sX y g t) t n = n') => ih (t + 1) n' (by omega) (by rw [← e]; exact h)
    refine br_f (nI_ge (b := 256) h256 (by decide)) (nm_r ea (nm_r eb (nm_r ec (nm_r ed ?_))))
    cases hp : sl_prm t
    · refine br_f (fun w => by rw [sl_tPrm t h256, hp] at w; exact absurd w Bool.false_ne_true) (br_t rfl (nm_r (nI_1 t) (hr n (sl_ctF ?_))))
      rw [hp]
      rfl
    · refine br_t ((sl_tPrm t h256).mpr hp) (br_f (by decide) (sl_sfY hT hz (Nat.mod_lt _ (by decide)) (Nat.mod_lt _ (by decide)) (Nat.mod_lt _ (by decide)) (Nat.mod_lt _ (by decide)) ?_))
      cases hy : sl_sf l sX y g (t % 4) (t / 4 % 4) (t / 16 % 4) (t / 64 % 4)
      · refine br_t rfl (nm_r (nI_1 t) (hr n (sl_ctF ?_)))
        unfold sl_yr
        rw [hp, hy]
        rfl
      · refine br_f (by decide) (nm_r (nI_1 n) (nm_r (nI_1 t) (hr _ (sl_ctT ?_))))
        unfold sl_yr
        rw [hp, hy]
        rfl
theorem sl_goC (Q : Nat → Bool) : ∀ k i n, sl_go (sl_ct Q) i k n = n + (List.range' i k).countP Q := by
  intro k
  induction k with
  | zero => intro i n; rfl
  | succ k ih =>
    intro i n
    show sl_go (sl_ct Q) (i + 1) k (sl_ct Q i n) = _
    rw [ih, List.range'_succ, List.countP_cons]
    unfold sl_ct
    split <;> omega
theorem sl_cF (P r : Nat → Bool) : ∀ l : List Nat, l.countP (fun t => P t && r t) = (l.filter P).countP r := by
  intro l
  induction l with
  | nil => rfl
  | cons a l ih =>
    rw [List.countP_cons, ih, List.filter_cons]
    cases h : P a
    · simp
    · simp [List.countP_cons]
theorem sl_cM (q r : Nat → Bool) (τ : Nat → Nat) : ∀ l : List Nat, (∀ t, t ∈ l → r t = q (τ t)) → l.countP r = (l.map τ).countP q := by
  intro l
  induction l with
  | nil => intro _; rfl
  | cons a l ih =>
    intro h
    rw [List.map_cons, List.countP_cons, List.countP_cons, ih (fun t ht => h t (List.mem_cons_of_mem _ ht)), h a (List.mem_cons_self ..)]
def sl_ds (t : Nat) : Bool := !(t / 16 == t / 4 % 4) && (!(t / 16 == t % 4) && !(t / 4 % 4 == t % 4))
def sl_tau (t : Nat) : Nat := (t % 4) * 16 + (t / 4 % 4) * 4 + t / 16 % 4
theorem sl_tPerm : (((List.range' 0 256).filter sl_prm).map sl_tau).Perm ((List.range' 0 64).filter sl_ds) := by decide +kernel
theorem sl_cnt (q r : Nat → Bool) (h : ∀ t, t < 256 → sl_prm t = true → r t = q (sl_tau t)) : sl_go (sl_ct (fun t => sl_prm t && r t)) 0 256 0 = sl_go (sl_ct (fun t => sl_ds t && q t)) 0 64 0 := by
  rw [sl_goC, sl_goC, sl_cF, sl_cF, sl_cM q r sl_tau, List.Perm.countP_eq q sl_tPerm]
  intro t ht
  rw [List.mem_filter, List.mem_range'_1] at ht
  exact h t (by omega) ht.2
theorem sl_64 {α : Type} (f : Nat → α → α) (q : α) : sl_go f 0 64 q = sl_go (fun a q => sl_go (fun b q => sl_go (fun c q => f ((a * 4 + b) * 4 + c) q) 0 4 q) 0 4 q) 0 4 q := by
  have a := sl_go_mul f 4 16 0 q
  have b := sl_go_mul (fun j q => sl_go (fun l q => f (j * 4 + l) q) 0 4 q) 4 4 0 q
  exact a.trans b
def sl_xr (mp : Int32) (sc ek : Nat → Int32) (g : Int32) (t : Nat) : Bool := decide (sl_wi mp sc ek (t / 16) (t / 4 % 4) (t % 4) (6 - t / 16 - t / 4 % 4 - t % 4) = g)
theorem sl_xN {mp g : Int32} {sc ek : Nat → Int32} : sl_go (fun a n => sl_go (fun b n => sl_go (sl_ct (sl_xq mp sc ek g a b)) 0 4 n) 0 4 n) 0 4 0 = sl_go (sl_ct (fun t => sl_ds t && sl_xr mp sc ek g t)) 0 64 0 := by
  rw [sl_64]
  refine sl_go_congr _ _ 4 0 0 (fun a _ ha n => sl_go_congr _ _ 4 0 n (fun b _ hb n => sl_go_congr _ _ 4 0 n (fun c _ hc n => ?_)))
  have e1 : ((a * 4 + b) * 4 + c) / 16 = a := by omega
  have e2 : ((a * 4 + b) * 4 + c) / 4 % 4 = b := by omega
  have e3 : ((a * 4 + b) * 4 + c) % 4 = c := by omega
  have e : (sl_ds ((a * 4 + b) * 4 + c) && sl_xr mp sc ek g ((a * 4 + b) * 4 + c)) = sl_xq mp sc ek g (((a * 4 + b) * 4 + c) / 16) (((a * 4 + b) * 4 + c) / 4 % 4) (((a * 4 + b) * 4 + c) % 4) := rfl
  rw [e1, e2, e3] at e
  exact sl_ctE e.symm
theorem sl_tDst : ∀ t, t < 256 → sl_prm t = true → sl_dst (t % 4) (t / 4 % 4) (t / 16 % 4) (t / 64 % 4) = true ∧ t / 64 % 4 = 6 - t % 4 - t / 4 % 4 - t / 16 % 4 := by decide +kernel
theorem sl_dstF {a b c d : Nat} (h : sl_dst a b c d = true) : ¬ a = b ∧ ¬ a = c ∧ ¬ b = c ∧ ¬ a = d ∧ ¬ b = d ∧ ¬ c = d := by
  unfold sl_dst at h
  rw [Bool.not_eq_true', Bool.or_eq_false_iff, Bool.or_eq_false_iff, Bool.or_eq_false_iff, Bool.or_eq_false_iff, Bool.or_eq_false_iff, beq_eq_false_iff_ne, beq_eq_false_iff_ne, beq_eq_false_iff_ne, beq_eq_false_iff_ne, beq_eq_false_iff_ne, beq_eq_false_iff_ne] at h
  obtain ⟨⟨⟨⟨⟨h1, h2⟩, h3⟩, h4⟩, h5⟩, h6⟩ := h
  exact ⟨h1, h2, h3, h4, h5, h6⟩
theorem sl_sfT {mp : Int32} {sc ek : Nat → Int32} {g : Int32} {a b c d : Nat} : sl_sf mp sc ek g a b c d = true ↔ ∃ s, s < 4096 ∧ sl_fol s a b c d = true ∧ sl_wo sc s = g ∧ sl_aw mp ek s = true := by
  unfold sl_sf
  rw [sl_an_iff]
  constructor
  · intro ⟨s, _, h2, h3⟩
    unfold sl_F at h3
    rw [Bool.and_eq_true, Bool.and_eq_true, decide_eq_true_eq] at h3
    exact ⟨s, by omega, h3⟩
  · intro ⟨s, h1, h2, h3, h4⟩
    refine ⟨s, by omega, by omega, ?_⟩
    unfold sl_F
    rw [h2, h4, decide_eq_true h3]
    rfl
theorem sl_tauD {a b c : Nat} (ha : a < 4) (hb : b < 4) (hc : c < 4) : (a * 16 + b * 4 + c) / 16 = a ∧ (a * 16 + b * 4 + c) / 4 % 4 = b ∧ (a * 16 + b * 4 + c) % 4 = c := by
  refine ⟨?_, ?_, ?_⟩ <;> omega
theorem sl_yx {mp : Int32} {sc ek : Nat → Int32} {g : Int32} (hbd : sl_bd sc) (hg : ∀ s, s < 4096 → sl_aw mp ek s = true → sl_wo sc s ≤ g) (hgN : ¬ g = -100000) (t : Nat) (ht : t < 256) (hp : sl_prm t = true) : sl_yr mp sc ek g t = sl_xr mp sc ek g (sl_tau t) := by
  obtain ⟨hd, hd6⟩ := sl_tDst t ht hp
  obtain ⟨h1, h2, h3, h4, h5, h6⟩ := sl_dstF hd
  have K := sl_key (mp := mp) (ek := ek) hbd hg hgN (a := t % 4) (b := t / 4 % 4) (c := t / 16 % 4) (d := t / 64 % 4) (Nat.mod_lt _ (by decide)) (Nat.mod_lt _ (by decide)) (Nat.mod_lt _ (by decide)) (Nat.mod_lt _ (by decide)) h1 h2 h3 h4 h5 h6
  have la : t % 4 < 4 := Nat.mod_lt _ (by decide)
  have lb : t / 4 % 4 < 4 := Nat.mod_lt _ (by decide)
  have lc : t / 16 % 4 < 4 := Nat.mod_lt _ (by decide)
  obtain ⟨e1, e2, e3⟩ : sl_tau t / 16 = t % 4 ∧ sl_tau t / 4 % 4 = t / 4 % 4 ∧ sl_tau t % 4 = t / 16 % 4 := sl_tauD la lb lc
  unfold sl_yr sl_xr
  rw [e1, e2, e3, ← hd6]
  rw [Bool.eq_iff_iff, decide_eq_true_eq, sl_sfT]
  exact K
end
section
/-! orders, the owed statement -/
theorem i_vc_orders {k : Nat} {u : SX} {v : SY} (I : i_Rel k u v) (hk : k + 4 ≤ 2048) : wpX_orders (fun r => wpY_orders (fun r' v' => r' = r ∧ i_Rel (k + 4) u v') v) u := by
  obtain ⟨mp, sX, ek, kn, mo, fi, sY, c, rfl, rfl, hT, hc, hb, hk2⟩ := I
  unfold wpX_orders wpY_orders
  dsimp only
  refine sl_fb0 ?_
  have hR := fun kn' => sl_relU (k := k + 4) (mp := mp) (kn := kn') (sX := sX) (sY := sY) (ek := ek) (c := c) hT hc hb rfl rfl
  have hW := fun post h => sl_wkY (post := post) hT hc hk2 h
  have hm := (sl_MFp mp sX ek (fun _ => true)).2
  generalize sl_MF mp sX ek (fun _ => true) = q at *
  cases q with
  | none => exact br_t rfl (hW _ (fun kn' h' => br_t rfl ⟨rfl, hR kn'⟩))
  | some s =>
    have hg : ∀ t, t < 4096 → sl_aw mp ek t = true → sl_wo sX t ≤ sl_wo sX s := fun t h1 h2 => hm t h1 rfl h2
    have key := sl_cnt _ _ (fun t h1 h2 => sl_yx (mp := mp) (ek := ek) hb hg (sl_woNN hb s) t h1 h2)
    refine br_f (sl_pkN s) (sl_woX ⟨5, sl_o26 4 0 0 rfl ?_⟩)
    refine hW _ (fun kn' h' => br_f (sl_woNN hb s) ⟨257, sl_oY hT hc 256 0 0 rfl ⟨?_, hR kn'⟩⟩)
    rw [sl_xN, ← key]
    rfl
end
