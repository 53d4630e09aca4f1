/-! the abstract state, how both states stand for it, what is kept -/
abbrev Lk : Type := Nat × Nat × Nat
def b2i (b : Bool) : Int32 := if b = true then 1 else 0
theorem b2i_0 {b : Bool} : b2i b = 0 ↔ b = false := by cases b <;> decide
theorem b2i_n {b : Bool} : ¬ b2i b = 0 ↔ b = true := by cases b <;> decide
theorem b2i_01 (b : Bool) : b2i b = 0 ∨ b2i b = 1 := by cases b <;> decide
theorem b2i_t : b2i true = 1 := rfl
theorem b2i_f : b2i false = 0 := rfl
theorem nar1 : vp_nar .boolean (1 : Int32) = 1 := by decide
theorem nar0 : vp_nar .boolean (0 : Int32) = 0 := by decide
/-- a function changed at a place -/
def up {α : Type} (f : Nat → α) (k : Nat) (v : α) : Nat → α := fun j => if j = k then v else f j
theorem up_s {α : Type} {f : Nat → α} {k : Nat} {v : α} : up f k v k = v := by simp [up]
theorem up_n {α : Type} {f : Nat → α} {k j : Nat} {v : α} (h : j ≠ k) : up f k v j = f j := by simp [up, h]
theorem upd_nI (f : Nat → Nat) (k v : Nat) : upd (fun j => nI (f j)) k (nI v) = fun j => nI (up f k v j) := by
  funext j
  by_cases h : j = k
  · subst h; simp [upd, up]
  · simp [upd, up, h]
theorem upd_b (f : Nat → Bool) (k : Nat) (b : Bool) : upd (fun j => b2i (f j)) k (b2i b) = fun j => b2i (up f k b j) := by
  funext j
  by_cases h : j = k
  · subst h; simp [upd, up]
  · simp [upd, up, h]
/-- the links' arrays -/
def LR (lf li lt : Nat → Int32) (n : Int32) (L : List Lk) : Prop := n = nI L.length ∧ ∀ (k : Nat) (e : Lk), L[k]? = some e → lf k = nI e.1 ∧ li k = nI e.2.1 ∧ lt k = nI e.2.2
/-- the way's array -/
def RG (w : Nat → Int32) (n : Int32) (g : List Nat) : Prop := n = nI g.length ∧ ∀ (k v : Nat), g[k]? = some v → w k = nI v
def rX (σ : XSt) (R : Nat) (lv : Nat → Bool) (hs : Nat → Int32) (ho cc : Nat → Nat) (cm : Nat → Int32) (L : List Lk) (g : List Nat) (mo : Int32) : Prop :=
  x_records σ = nI R ∧ x_live σ = (fun j => b2i (lv j)) ∧ x_houses σ = hs ∧ x_hosts σ = (fun j => nI (ho j)) ∧ x_changeCounts σ = (fun j => nI (cc j)) ∧ x_changeMoments σ = cm ∧ LR (x_linkFrom σ) (x_linkField σ) (x_linkTo σ) (x_links σ) L ∧ RG (x_refusedWay σ) (x_refusedWayLength σ) g ∧ x_moment σ = mo
def rM (τ : MSt) (R : Nat) (lv : Nat → Bool) (hs : Nat → Int32) (hh cc : Nat → Nat) (cm : Nat → Int32) (L : List Lk) (g : List Nat) (mo : Int32) : Prop :=
  m_records τ = nI R ∧ m_live τ = (fun j => b2i (lv j)) ∧ m_houses τ = hs ∧ m_hadHost τ = (fun j => nI (hh j)) ∧ m_timeCount τ = (fun j => nI (cc j)) ∧ m_times τ = cm ∧ LR (m_from τ) (m_field τ) (m_to τ) (m_links τ) L ∧ RG (m_ring τ) (m_ringLength τ) g ∧ m_moment τ = mo
/-- the way outwards from r, r first -/
def Chn (ho : Nat → Nat) : Nat → List Nat → Prop
  | r, [] => r = 0
  | r, x :: c => r = x ∧ ¬ x = 0 ∧ Chn ho (ho x) c
def cntF (L : List Lk) (f d : Nat) : Nat := L.countP (fun e => e.1 == f && e.2.1 == d)
def mostN : Nat → Nat := fun k => match k with
  | 0 => 1
  | 1 => 2
  | 2 => 5
  | 3 => 5
  | _ => 3
/-- what is kept of the links and records -/
def IL (R : Nat) (lv : Nat → Bool) (L : List Lk) : Prop :=
  (∀ e ∈ L, lv e.1 = true ∧ e.2.1 ≤ 9 ∧ (e.2.1 < 4 → 1 ≤ e.2.2 ∧ e.2.2 ≤ R) ∧ (4 ≤ e.2.1 → 1 ≤ e.2.2 ∧ e.2.2 ≤ 99)) ∧ L.Nodup ∧ L.length ≤ 200 ∧ ∀ f d, cntF L f d ≤ mostN d
def IH (lv : Nat → Bool) (ho : Nat → Nat) (L : List Lk) : Prop :=
  (∀ r t, (r, 0, t) ∈ L → ho r = t) ∧ (∀ r, lv r = true → ¬ ho r = 0 → (r, 0, ho r) ∈ L) ∧ (∀ r, lv r = true → ∃ c, Chn ho r c ∧ ∀ x ∈ c, lv x = true)
def IN (R : Nat) (lv : Nat → Bool) (ho hh cc : Nat → Nat) (g : List Nat) : Prop :=
  R ≤ 60 ∧ (∀ j, lv j = true → 1 ≤ j ∧ j ≤ R) ∧ (∀ j, cc j ≤ 40) ∧ ho 0 = 0 ∧ (∀ j, R < j → ho j = 0) ∧ (∀ j, ho j ≤ R) ∧ (∀ j, 1 ≤ j → j ≤ R → lv j = false → hh j = ho j) ∧ g.length ≤ 60
def Rel (σ : XSt) (τ : MSt) : Prop := ∃ (R : Nat) (lv : Nat → Bool) (hs : Nat → Int32) (ho hh cc : Nat → Nat) (cm : Nat → Int32) (L : List Lk) (g : List Nat) (mo : Int32),
  rX σ R lv hs ho cc cm L g mo ∧ rM τ R lv hs hh cc cm L g mo ∧ IL R lv L ∧ IH lv ho L ∧ IN R lv ho hh cc g
/-- one call, on both sides -/
def Sim (x : Option (Int32 × XSt)) (m : Option (Int32 × MSt)) : Prop := ∃ (r : Int32) (σ : XSt) (τ : MSt), x = some (r, σ) ∧ m = some (r, τ) ∧ Rel σ τ
-- numbers
theorem nI_inj {a b : Nat} (ha : a < 2 ^ 31) (hb : b < 2 ^ 31) (h : nI a = nI b) : a = b := (nI_eq ha hb).mp h
theorem nI_1' : nI 1 = 1 := by decide
theorem nI_2' : nI 2 = 2 := by decide
theorem nI_60 : nI 60 = 60 := by decide
theorem ofN (n : Nat) : Int32.ofNat n = nI n := rfl
/-- an Int32 is a record's number, or isn't -/
theorem rec_cases (p : Int32) {R : Nat} (hR : R < 2 ^ 30) : p < 1 ∨ (¬ p < 1 ∧ nI R < p) ∨ ∃ r : Nat, 1 ≤ r ∧ r ≤ R ∧ p = nI r := by
  rcases Int32.lt_or_le p 1 with h | h
  · exact Or.inl h
  · have h0 : ¬ p < 1 := Int32.not_lt.mpr h
    refine Or.inr ?_
    have h1 : (1 : Int) ≤ p.toInt := by
      have := Int32.le_iff_toInt_le.mp h
      simpa using this
    by_cases h2 : nI R < p
    · exact Or.inl ⟨h0, h2⟩
    · have h3 : p.toInt ≤ (R : Int) := by
        have := Int32.le_iff_toInt_le.mp (Int32.not_lt.mp h2)
        rw [nI_toInt (by omega)] at this
        exact this
      have hn : ¬ p < 0 := by
        intro hc
        have := Int32.lt_iff_toInt_lt.mp hc
        simp at this
        omega
      obtain ⟨j, hj, rfl⟩ := nI_of hn
      rw [nI_toInt hj] at h1 h3
      exact Or.inr ⟨j, by omega, by omega, rfl⟩
