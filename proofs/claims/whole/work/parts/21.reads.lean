/-! the reads that need no loop -/
section RD
variable {σ : XSt} {τ : MSt} {R : Nat} {lv : Nat → Bool} {hs : Nat → Int32} {ho hh cc : Nat → Nat} {cm : Nat → Int32} {L : List Lk} {g : List Nat} {mo : Int32} {K : Nat}
def liveI (R : Nat) (lv : Nat → Bool) (p : Int32) : Bool := if p < 1 then false else if nI R < p then false else lv p.toNatClampNeg
theorem liveI_r {r : Nat} (h1 : 1 ≤ r) (h2 : r ≤ R) (hR : R ≤ 60) : liveI R lv (nI r) = lv r := by
  have n1 : ¬ nI r < 1 := nI_nlt (a := r) (b := 1) h1 (by omega)
  have n2 : ¬ nI R < nI r := nI_nlt h2 (by omega)
  unfold liveI
  rw [if_neg n1, if_neg n2, nI_clamp (by omega)]
theorem liveI_t {p : Int32} (hR : R ≤ 60) (h : liveI R lv p = true) : ∃ r : Nat, 1 ≤ r ∧ r ≤ R ∧ p = nI r ∧ lv r = true := by
  rcases rec_cases p (R := R) (by omega) with c | ⟨c, c2⟩ | ⟨r, r1, r2, rfl⟩
  · simp [liveI, c] at h
  · simp [liveI, c2] at h
  · exact ⟨r, r1, r2, rfl, by rw [liveI_r r1 r2 hR] at h; exact h⟩
theorem inN {r N : Nat} (h : r < N) (hN : N < 2 ^ 31) : ¬ (nI r < 0 ∨ N ≤ (nI r).toNatClampNeg) := nI_in h hN
theorem xLive (h : rX σ R lv hs ho cc cm L g mo) (hR : R ≤ 60) (p : Int32) : fX_isLive K p σ = some (b2i (liveI R lv p), σ) := by
  obtain ⟨h1, h2, -⟩ := h
  unfold fX_isLive fX_isRecord
  rw [h1]
  rcases rec_cases p (R := R) (by omega) with c | ⟨c, c2⟩ | ⟨r, r1, r2, rfl⟩
  · simp [c, liveI, b2i]
  · simp [c, c2, liveI, b2i]
  · have n1 : ¬ nI r < 1 := nI_nlt (a := r) (b := 1) r1 (by omega)
    have n2 : ¬ nI R < nI r := nI_nlt r2 (by omega)
    rw [liveI_r r1 r2 hR, if_neg n1, if_neg n2, Option.bind_some, if_neg (show ¬ (1 : Int32) = 0 by decide), if_neg (inN (by omega) (by omega)), nI_clamp (by omega), h2]
    cases hb : lv r <;> simp [b2i, hb]
theorem mLive (h : rM τ R lv hs hh cc cm L g mo) (hR : R ≤ 60) (p : Int32) : fM_isLive K p τ = some (b2i (liveI R lv p), τ) := by
  obtain ⟨h1, h2, -⟩ := h
  unfold fM_isLive
  rw [h1]
  have hc : p ≤ 0 ↔ p < 1 := by
    rw [Int32.le_iff_toInt_le, Int32.lt_iff_toInt_lt]
    simp
    omega
  rcases rec_cases p (R := R) (by omega) with c | ⟨c, c2⟩ | ⟨r, r1, r2, rfl⟩
  · simp [hc, c, liveI, b2i]
  · simp [hc, c, c2, liveI, b2i]
  · have n1 : ¬ nI r < 1 := nI_nlt (a := r) (b := 1) r1 (by omega)
    have n2 : ¬ nI R < nI r := nI_nlt r2 (by omega)
    rw [liveI_r r1 r2 hR, if_neg (fun q => n1 (hc.mp q)), if_neg n2, if_neg (inN (by omega) (by omega)), nI_clamp (by omega), h2]
    cases hb : lv r <;> simp [b2i, hb]
def headI (p : Int32) : Bool := decide (1 ≤ p ∧ p ≤ 99)
theorem xHead (p : Int32) : fX_isHeading K p σ = some (b2i (headI p), σ) := by
  unfold fX_isHeading headI
  by_cases c : p < 1
  · have : ¬ 1 ≤ p := Int32.not_le.mpr c
    simp [c, this, b2i]
  · have h1 : 1 ≤ p := Int32.not_lt.mp c
    by_cases c2 : 99 < p
    · have : ¬ p ≤ 99 := Int32.not_le.mpr c2
      simp [c, c2, this, b2i]
    · have : p ≤ 99 := Int32.not_lt.mp c2
      simp [c, c2, this, h1, b2i]
theorem mHead (p : Int32) : fM_isHeading K p τ = some (b2i (headI p), τ) := by
  unfold fM_isHeading headI
  have hc : p ≤ 0 ↔ ¬ 1 ≤ p := by
    rw [Int32.le_iff_toInt_le, Int32.le_iff_toInt_le]
    simp
    omega
  have hd : (100 : Int32) ≤ p ↔ ¬ p ≤ 99 := by
    rw [Int32.le_iff_toInt_le, Int32.le_iff_toInt_le]
    simp
    omega
  by_cases c : 1 ≤ p
  · by_cases c2 : p ≤ 99
    · simp [hc, hd, c, c2, b2i]
    · simp [hc, hd, c, c2, b2i]
  · simp [hc, c, b2i]
theorem headI_t {p : Int32} (h : headI p = true) : ∃ t : Nat, 1 ≤ t ∧ t ≤ 99 ∧ p = nI t := by
  have h := of_decide_eq_true h
  have hn : ¬ p < 0 := by
    intro c
    have h1 := Int32.le_iff_toInt_le.mp h.1
    have h2 := Int32.lt_iff_toInt_lt.mp c
    simp at h1 h2
    omega
  obtain ⟨j, hj, rfl⟩ := nI_of hn
  have h1 := Int32.le_iff_toInt_le.mp h.1
  have h2 := Int32.le_iff_toInt_le.mp h.2
  rw [nI_toInt hj] at h1 h2
  simp at h1 h2
  exact ⟨j, by omega, by omega, rfl⟩
-- thrown changes nothing
theorem rM_thrown (h : rM τ R lv hs hh cc cm L g mo) (v : Int32) : rM (m_pthrown τ v) R lv hs hh cc cm L g mo := h
theorem rM_mom (h : rM τ R lv hs hh cc cm L g mo) (v w : Int32) : rM (m_pmoment (m_pthrown τ v) w) R lv hs hh cc cm L g w := by
  obtain ⟨h1, h2, h3, h4, h5, h6, h7, h8, h9⟩ := h
  exact ⟨h1, h2, h3, h4, h5, h6, h7, h8, rfl⟩
theorem rX_mom (h : rX σ R lv hs ho cc cm L g mo) (w : Int32) : rX (x_pmoment σ w) R lv hs ho cc cm L g w := by
  obtain ⟨h1, h2, h3, h4, h5, h6, h7, h8, h9⟩ := h
  exact ⟨h1, h2, h3, h4, h5, h6, h7, h8, rfl⟩
theorem sim_ring (hR : Rel σ τ) (p : Int32) : Sim (fX_ring K p σ) (fM_ring K p τ) := by
  obtain ⟨R, lv, hs, ho, hh, cc, cm, L, g, mo, hx, hm, hL, hH, hN⟩ := hR
  have hr : Rel σ (m_pthrown τ 0) := ⟨R, lv, hs, ho, hh, cc, cm, L, g, mo, hx, rM_thrown hm 0, hL, hH, hN⟩
  obtain ⟨gx, gw⟩ := hx.2.2.2.2.2.2.2.1
  obtain ⟨gm, gv⟩ := hm.2.2.2.2.2.2.2.1
  have hg : g.length ≤ 60 := hN.2.2.2.2.2.2.2
  unfold fX_ring fM_ring
  rw [gx, gm]
  by_cases c : p < 0
  · rw [if_pos c, if_pos c]
    exact ⟨_, _, _, rfl, rfl, hr⟩
  · rw [if_neg c, if_neg c]
    obtain ⟨j, hj, rfl⟩ := nI_of c
    by_cases c2 : g.length ≤ j
    · rw [if_pos (nI_le c2 hj), if_neg (nI_nlt c2 hj)]
      exact ⟨_, _, _, rfl, rfl, hr⟩
    · have hlt : j < g.length := by omega
      rw [if_neg (nI_ge hlt (by omega)), if_pos (nI_lt hlt (by omega)), if_neg (inN (by omega) (by omega)), if_neg (inN (by omega) (by omega)), nI_clamp hj]
      have e1 := gw j g[j] (List.getElem?_eq_getElem hlt)
      have e2 := gv j g[j] (List.getElem?_eq_getElem hlt)
      rw [e1, e2]
      exact ⟨_, _, _, rfl, rfl, hr⟩
theorem sim_house (hR : Rel σ τ) (p : Int32) : Sim (fX_house K p σ) (fM_house K p τ) := by
  obtain ⟨R, lv, hs, ho, hh, cc, cm, L, g, mo, hx, hm, hL, hH, hN⟩ := hR
  have hr : Rel σ (m_pthrown τ 0) := ⟨R, lv, hs, ho, hh, cc, cm, L, g, mo, hx, rM_thrown hm 0, hL, hH, hN⟩
  have h60 : R ≤ 60 := hN.1
  obtain ⟨h1, h2, h3, -⟩ := hx
  obtain ⟨k1, k2, k3, -⟩ := hm
  unfold fX_house fM_house fX_isRecord
  rw [h1, k1]
  rcases rec_cases p (R := R) (by omega) with c | ⟨c, c2⟩ | ⟨r, r1, r2, rfl⟩
  · rw [if_pos c, if_pos c]
    exact ⟨_, _, _, rfl, rfl, hr⟩
  · rw [if_neg c, if_pos c2, if_neg c, if_neg (Int32.not_le.mpr c2)]
    exact ⟨_, _, _, rfl, rfl, hr⟩
  · have n1 : ¬ nI r < 1 := nI_nlt (a := r) (b := 1) r1 (by omega)
    have n2 : ¬ nI R < nI r := nI_nlt r2 (by omega)
    rw [if_neg n1, if_neg n2, Option.bind_some, if_neg (show ¬ (1 : Int32) = 0 by decide), if_neg (inN (by omega) (by omega)), if_neg n1, if_pos (nI_le r2 (by omega)), if_neg (inN (by omega) (by omega)), nI_clamp (by omega), k3]
    dsimp only
    rw [h3]
    exact ⟨_, _, _, rfl, rfl, hr⟩
theorem sim_times (hR : Rel σ τ) (p q : Int32) : Sim (fX_times K p q σ) (fM_times K p q τ) := by
  obtain ⟨R, lv, hs, ho, hh, cc, cm, L, g, mo, hx, hm, hL, hH, hN⟩ := hR
  have hr : Rel σ (m_pthrown τ 0) := ⟨R, lv, hs, ho, hh, cc, cm, L, g, mo, hx, rM_thrown hm 0, hL, hH, hN⟩
  have h60 : R ≤ 60 := hN.1
  have h40 := hN.2.2.1
  obtain ⟨h1, h2, h3, h4, h5, h6, -⟩ := hx
  obtain ⟨k1, k2, k3, k4, k5, k6, -⟩ := hm
  unfold fX_times fM_times fX_isRecord
  rw [h1, k1]
  rcases rec_cases p (R := R) (by omega) with c | ⟨c, c2⟩ | ⟨r, r1, r2, rfl⟩
  · rw [if_pos c, if_pos c]
    exact ⟨_, _, _, rfl, rfl, hr⟩
  · rw [if_neg c, if_pos c2, if_neg c, if_pos c2]
    exact ⟨_, _, _, rfl, rfl, hr⟩
  · have n1 : ¬ nI r < 1 := nI_nlt (a := r) (b := 1) r1 (by omega)
    have n2 : ¬ nI R < nI r := nI_nlt r2 (by omega)
    have h40r := h40 r
    rw [if_neg n1, if_neg n2, Option.bind_some, if_neg (show ¬ (1 : Int32) = 0 by decide), if_neg n1, if_neg n2]
    dsimp only
    by_cases c : q < 0
    · rw [if_pos c, if_pos c]
      exact ⟨_, _, _, rfl, rfl, hr⟩
    · rw [if_neg c, if_neg c, if_neg (inN (by omega) (by omega)), if_neg (inN (by omega) (by omega)), nI_clamp (by omega), h5, k5]
      obtain ⟨j, hj, rfl⟩ := nI_of c
      by_cases c2 : j < cc r
      · have e1 : nI r * 40 + nI j = nI (40 * r + j) := by
          rw [show (40 : Int32) = nI 40 by decide, pk_mul, nI_add, Nat.mul_comm]
        have e2 : 40 * nI r + nI j = nI (40 * r + j) := by
          rw [show (40 : Int32) = nI 40 by decide, pk_mul, nI_add]
        rw [if_pos (nI_lt c2 (by omega)), if_pos (nI_lt c2 (by omega)), e1, e2, if_neg (inN (by omega) (by omega)), if_neg (inN (by omega) (by omega)), h6, k6]
        exact ⟨_, _, _, rfl, rfl, hr⟩
      · rw [if_neg (nI_nlt (by omega) hj), if_neg (nI_nlt (by omega) hj)]
        exact ⟨_, _, _, rfl, rfl, hr⟩
end RD
