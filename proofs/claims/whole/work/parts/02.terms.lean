/-! terms as lists of tokens: arity, m terms in a row, where they end, no term begins another; what an array holds -/
def tm_ar (t : Int64) : Nat := if t < 4 then 0 else if t < 12 then (if 7 ≤ t then 2 else 1) else 0
theorem tm_ar_le (t : Int64) : tm_ar t ≤ 2 := by
  unfold tm_ar
  split
  · omega
  · split
    · split <;> omega
    · omega
/-- the list is m terms, one behind another -/
def tm_w : List Int64 → Nat → Prop
  | [], m => m = 0
  | t :: l, m => 0 < m ∧ tm_w l (m - 1 + tm_ar t)
theorem tm_w_nil {m : Nat} : tm_w [] m ↔ m = 0 := Iff.rfl
theorem tm_w_cons {t : Int64} {l : List Int64} {m : Nat} : tm_w (t :: l) (m + 1) ↔ tm_w l (m + tm_ar t) := by
  constructor
  · intro h; exact h.2
  · intro h; exact ⟨by omega, h⟩
theorem tm_w_ne {t : Int64} {l : List Int64} {m : Nat} (h : tm_w (t :: l) m) : ∃ k, m = k + 1 ∧ tm_w l (k + tm_ar t) := by
  obtain ⟨h0, h1⟩ := h
  exact ⟨m - 1, by omega, h1⟩
theorem tm_w_app : ∀ (a b : List Int64) (m k : Nat), tm_w a m → tm_w b k → tm_w (a ++ b) (m + k)
  | [], b, m, k, ha, hb => by
    rw [tm_w_nil] at ha; subst ha; rw [Nat.zero_add]; exact hb
  | t :: a, b, m, k, ha, hb => by
    obtain ⟨h0, h1⟩ := ha
    refine ⟨by omega, ?_⟩
    have := tm_w_app a b _ k h1 hb
    rw [show m + k - 1 + tm_ar t = m - 1 + tm_ar t + k by omega]
    exact this
theorem tm_w_split : ∀ (l : List Int64) (m k : Nat), tm_w l (m + k) → ∃ a b, l = a ++ b ∧ tm_w a m ∧ tm_w b k
  | l, 0, k, h => ⟨[], l, rfl, rfl, by rw [Nat.zero_add] at h; exact h⟩
  | [], m + 1, k, h => by
    rw [tm_w_nil] at h; omega
  | t :: l, m + 1, k, h => by
    obtain ⟨_, h1⟩ := h
    rw [show m + 1 + k - 1 + tm_ar t = (m + tm_ar t) + k by omega] at h1
    obtain ⟨a, b, e, ha, hb⟩ := tm_w_split l (m + tm_ar t) k h1
    exact ⟨t :: a, b, by rw [e]; rfl, tm_w_cons.mpr ha, hb⟩
theorem tm_w_inj : ∀ (l : List Int64) (m k : Nat), tm_w l m → tm_w l k → m = k
  | [], m, k, h, h' => by rw [tm_w_nil] at h h'; omega
  | t :: l, m, k, h, h' => by
    have := tm_w_inj l _ _ h.2 h'.2
    have := h.1
    have := h'.1
    omega
/-- how many tokens the first m terms take -/
def tm_n : List Int64 → Nat → Nat
  | _, 0 => 0
  | [], _ + 1 => 0
  | t :: l, m + 1 => tm_n l (m + tm_ar t) + 1
theorem tm_n_0 (l : List Int64) : tm_n l 0 = 0 := by cases l <;> rfl
theorem tm_n_app : ∀ (a r : List Int64) (m : Nat), tm_w a m → tm_n (a ++ r) m = a.length
  | [], r, m, h => by rw [tm_w_nil] at h; subst h; exact tm_n_0 _
  | t :: a, r, m, h => by
    obtain ⟨k, rfl, h1⟩ := tm_w_ne h
    show tm_n (a ++ r) (k + tm_ar t) + 1 = a.length + 1
    rw [tm_n_app a r _ h1]
theorem tm_n_all {a : List Int64} {m : Nat} (h : tm_w a m) : tm_n a m = a.length := by
  have := tm_n_app a [] m h
  rwa [List.append_nil] at this
theorem tm_pf {a b r s : List Int64} {m : Nat} (ha : tm_w a m) (hb : tm_w b m) (h : a ++ r = b ++ s) : a = b ∧ r = s := by
  have e : a.length = b.length := by rw [← tm_n_app a r m ha, ← tm_n_app b s m hb, h]
  exact List.append_inj h e
theorem tm_w_len : ∀ (l : List Int64) (m : Nat), tm_w l m → m ≤ l.length
  | [], m, h => by rw [tm_w_nil] at h; omega
  | t :: l, m, h => by
    obtain ⟨k, rfl, h1⟩ := tm_w_ne h
    have := tm_w_len l _ h1
    simp only [List.length_cons]; omega
theorem tm_w_pos {l : List Int64} (h : tm_w l 1) : ∃ t r, l = t :: r ∧ tm_w r (tm_ar t) := by
  cases l with
  | nil => rw [tm_w_nil] at h; omega
  | cons t r => exact ⟨t, r, rfl, by have := tm_w_cons.mp h; rwa [Nat.zero_add] at this⟩
theorem tm_w_0 {l : List Int64} (h : tm_w l 0) : l = [] := by
  cases l with
  | nil => rfl
  | cons t r => exact absurd h.1 (by omega)
theorem tm_w_1 {t : Int64} (h : tm_ar t = 0) : tm_w [t] 1 := by
  refine ⟨by omega, ?_⟩
  rw [h]; exact rfl
/-- the first two terms exchanged -/
def tm_sw (l : List Int64) : List Int64 :=
  (l.drop (tm_n l 1)).take (tm_n (l.drop (tm_n l 1)) 1) ++ l.take (tm_n l 1) ++ (l.drop (tm_n l 1)).drop (tm_n (l.drop (tm_n l 1)) 1)
theorem tm_sw_eq {a b r : List Int64} (ha : tm_w a 1) (hb : tm_w b 1) : tm_sw (a ++ (b ++ r)) = b ++ (a ++ r) := by
  have e1 : tm_n (a ++ (b ++ r)) 1 = a.length := tm_n_app _ _ _ ha
  have e2 : (a ++ (b ++ r)).drop a.length = b ++ r := List.drop_left
  have e3 : tm_n (b ++ r) 1 = b.length := tm_n_app _ _ _ hb
  unfold tm_sw
  rw [e1, e2, e3, List.take_left, List.take_left, List.drop_left, List.append_assoc]
theorem tm_sw_len {a b r : List Int64} (ha : tm_w a 1) (hb : tm_w b 1) : (tm_sw (a ++ (b ++ r))).length = (a ++ (b ++ r)).length := by
  rw [tm_sw_eq ha hb]
  simp only [List.length_append]; omega
theorem tm_w_sw {l : List Int64} {m : Nat} (h : tm_w l (m + 2)) : tm_w (tm_sw l) (m + 2) := by
  rw [show m + 2 = 1 + (1 + m) by omega] at h
  obtain ⟨a, l1, rfl, ha, h1⟩ := tm_w_split l 1 (1 + m) h
  obtain ⟨b, r, rfl, hb, hr⟩ := tm_w_split l1 1 m h1
  rw [tm_sw_eq ha hb, show m + 2 = 1 + (1 + m) by omega]
  exact tm_w_app _ _ _ _ hb (tm_w_app _ _ _ _ ha hr)
theorem tm_2 {l : List Int64} {m : Nat} (h : tm_w l (m + 2)) : ∃ a b r, l = a ++ (b ++ r) ∧ tm_w a 1 ∧ tm_w b 1 ∧ tm_w r m := by
  rw [show m + 2 = 1 + (1 + m) by omega] at h
  obtain ⟨a, l1, rfl, ha, h1⟩ := tm_w_split l 1 (1 + m) h
  obtain ⟨b, r, rfl, hb, hr⟩ := tm_w_split l1 1 m h1
  exact ⟨a, b, r, rfl, ha, hb, hr⟩

/-- the array f holds the list from place i on -/
def hd_h {α : Type} (f : Nat → α) : Nat → List α → Prop
  | _, [] => True
  | i, t :: l => f i = t ∧ hd_h f (i + 1) l
theorem hd_app {α : Type} {f : Nat → α} : ∀ {a b : List α} {i : Nat}, hd_h f i (a ++ b) ↔ hd_h f i a ∧ hd_h f (i + a.length) b
  | [], b, i => by
    show hd_h f i b ↔ True ∧ hd_h f (i + 0) b
    rw [Nat.add_zero, true_and]
  | t :: a, b, i => by
    show (f i = t ∧ hd_h f (i + 1) (a ++ b)) ↔ (f i = t ∧ hd_h f (i + 1) a) ∧ hd_h f (i + (a.length + 1)) b
    rw [hd_app, show i + 1 + a.length = i + (a.length + 1) by omega, and_assoc]
theorem hd_congr {α : Type} {f g : Nat → α} : ∀ {l : List α} {i : Nat}, (∀ j, i ≤ j → j < i + l.length → g j = f j) → hd_h f i l → hd_h g i l
  | [], i, _, _ => trivial
  | t :: l, i, h, h1 => by
    refine ⟨(h i (by omega) (by simp only [List.length_cons]; omega)).trans h1.1, hd_congr (fun j a b => h j (by omega) (by simp only [List.length_cons]; omega)) h1.2⟩
theorem hd_get {α : Type} {f : Nat → α} : ∀ {l : List α} {i j : Nat} (_ : hd_h f i l) (hj : j < l.length), f (i + j) = l[j]
  | t :: l, i, 0, h, hj => h.1
  | t :: l, i, j + 1, h, hj => by
    have := hd_get (i := i + 1) (j := j) h.2 (by simp only [List.length_cons] at hj; omega)
    rw [show i + 1 + j = i + (j + 1) by omega] at this
    exact this
theorem hd_of {α : Type} {f : Nat → α} : ∀ {l : List α} {i : Nat}, (∀ j (hj : j < l.length), f (i + j) = l[j]) → hd_h f i l
  | [], i, _ => trivial
  | t :: l, i, h => ⟨h 0 (by simp), hd_of (fun j hj => by
      have := h (j + 1) (by simp only [List.length_cons]; omega)
      rw [show i + 1 + j = i + (j + 1) by omega]
      exact this)⟩
theorem hd_snoc {α : Type} {f g : Nat → α} {l : List α} {i : Nat} {x : α} (h : hd_h f i l) (hg : ∀ j, i ≤ j → j < i + l.length → g j = f j) (hx : g (i + l.length) = x) : hd_h g i (l ++ [x]) :=
  hd_app.mpr ⟨hd_congr hg h, hx, trivial⟩
theorem hd_uniq {α : Type} {f : Nat → α} : ∀ {a b : List α} {i : Nat}, hd_h f i a → hd_h f i b → a.length = b.length → a = b
  | [], [], _, _, _, _ => rfl
  | [], _ :: _, _, _, _, h => by simp at h
  | _ :: _, [], _, _, _, h => by simp at h
  | x :: a, y :: b, i, h1, h2, h => by
    rw [← h1.1, ← h2.1, hd_uniq h1.2 h2.2 (by simpa using h)]
theorem hd_eq {α : Type} {f : Nat → α} {l : List α} {i : Nat} (t : α) (r : List α) (h : hd_h f i l) (e : l = t :: r) : f i = t ∧ hd_h f (i + 1) r := by
  subst e; exact h
/-- the same but from i on, n places -/
def hd_o {α : Type} (f g : Nat → α) (i n : Nat) : Prop := ∀ j, (j < i ∨ i + n ≤ j) → g j = f j
theorem hd_keepl {α : Type} {f g : Nat → α} {i n : Nat} {l : List α} {k : Nat} (ho : hd_o f g i n) (h : hd_h f k l) (hk : k + l.length ≤ i) : hd_h g k l :=
  hd_congr (fun j a b => ho j (Or.inl (by omega))) h
theorem hd_keepr {α : Type} {f g : Nat → α} {i n : Nat} {l : List α} {k : Nat} (ho : hd_o f g i n) (h : hd_h f k l) (hk : i + n ≤ k) : hd_h g k l :=
  hd_congr (fun j a b => ho j (Or.inr (by omega))) h
theorem hd_updL {f : Nat → Int64} {l : List Int64} {i k : Nat} {x : Int64} (h : hd_h f i l) (hk : k < i ∨ i + l.length ≤ k) : hd_h (vp_updL f k x) i l :=
  hd_congr (fun j a b => pk_uLn (by omega)) h
theorem hd_upd {f : Nat → Int32} {l : List Int32} {i k : Nat} {x : Int32} (h : hd_h f i l) (hk : k < i ∨ i + l.length ≤ k) : hd_h (upd f k x) i l :=
  hd_congr (fun j a b => pk_un (by omega)) h
theorem hd_snocL {f : Nat → Int64} {l : List Int64} {i : Nat} {x : Int64} (h : hd_h f i l) : hd_h (vp_updL f (i + l.length) x) i (l ++ [x]) :=
  hd_snoc h (fun j a b => pk_uLn (by omega)) pk_uLs
