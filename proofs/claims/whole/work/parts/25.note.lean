/-! record; notes of changes; the links' arrays under change -/
section NT
variable {σ : XSt} {τ : MSt} {R : Nat} {lv : Nat → Bool} {hs : Nat → Int32} {ho hh cc : Nat → Nat} {cm : Nat → Int32} {L : List Lk} {g : List Nat} {mo : Int32} {K : Nat}
theorem sim_record (hR : Rel σ τ) : Sim (fX_record K σ) (fM_record K τ) := by
  obtain ⟨R, lv, hs, ho, hh, cc, cm, L, g, mo, hx, hm, hL, hH, hN⟩ := hR
  obtain ⟨a1, a2, a3, a4, a5, a6, a7, a8, a9⟩ := hx
  obtain ⟨b1, b2, b3, b4, b5, b6, b7, b8, b9⟩ := hm
  obtain ⟨n1, n2, n3, n4, n5, n6, n7, n8⟩ := hN
  unfold fX_record fM_record
  rw [a1, b1]
  by_cases c : R = 60
  · subst c
    rw [if_neg (by decide), if_pos (by decide)]
    exact ⟨_, _, _, rfl, rfl, 60, lv, hs, ho, hh, cc, cm, L, g, mo, ⟨a1, a2, a3, a4, a5, a6, a7, a8, a9⟩, ⟨b1, b2, b3, b4, b5, b6, b7, b8, b9⟩, hL, hH, n1, n2, n3, n4, n5, n6, n7, n8⟩
  · rw [if_pos (show nI R < 60 from nI_lt (a := R) (b := 60) (by omega) (by omega)), if_neg (show ¬ nI R = 60 from fun q => c (nI_inj (b := 60) (by omega) (by omega) q)), nI_1, if_neg (inN (by omega) (by omega)), if_neg (inN (by omega) (by omega)), nI_clamp (by omega), a2, b2, nar1, show (1 : Int32) = b2i true from rfl, upd_b]
    refine ⟨_, _, _, rfl, rfl, R + 1, up lv (R + 1) true, hs, ho, hh, cc, cm, L, g, mo, ⟨rfl, rfl, a3, a4, a5, a6, a7, a8, a9⟩, ⟨rfl, rfl, b3, b4, b5, b6, b7, b8, b9⟩, ⟨fun e he => ?_, hL.2⟩, ⟨hH.1, fun r hr h0 => ?_, fun r hr => ?_⟩, by omega, fun j hj => ?_, n3, n4, fun j hj => n5 j (by omega), fun j => by have := n6 j; omega, fun j h1 h2 h3 => ?_, n8⟩
    · obtain ⟨q1, q2, q3, q4⟩ := hL.1 e he
      have := n2 _ q1
      refine ⟨by rw [up_n (by omega)]; exact q1, q2, fun h => ?_, q4⟩
      have := q3 h
      omega
    · by_cases c1 : r = R + 1
      · subst c1
        exact absurd (n5 (R + 1) (by omega)) h0
      · rw [up_n c1] at hr
        exact hH.2.1 r hr h0
    · by_cases c1 : r = R + 1
      · subst c1
        refine ⟨[R + 1], ⟨rfl, by omega, ?_⟩, fun x hx => ?_⟩
        · show ho (R + 1) = 0
          exact n5 (R + 1) (by omega)
        · rw [List.mem_singleton.mp hx]; exact up_s
      · rw [up_n c1] at hr
        obtain ⟨ch, q1, q2⟩ := hH.2.2 r hr
        refine ⟨ch, q1, fun x hx => ?_⟩
        have := n2 x (q2 x hx)
        rw [up_n (by omega)]
        exact q2 x hx
    · by_cases c1 : j = R + 1
      · omega
      · rw [up_n c1] at hj
        have := n2 j hj
        omega
    · by_cases c1 : j = R + 1
      · subst c1
        rw [up_s] at h3
        cases h3
      · rw [up_n c1] at h3
        exact n7 j h1 (by omega) h3
/-- is a change of r noted -/
def nC (mo : Int32) (cc : Nat → Nat) (cm : Nat → Int32) (r : Nat) : Bool := decide (cc r < 40) && !(decide (0 < cc r) && decide (cm (40 * r + cc r - 1) = mo))
def ntC (mo : Int32) (cc : Nat → Nat) (cm : Nat → Int32) (r : Nat) : Nat → Nat := if nC mo cc cm r = true then up cc r (cc r + 1) else cc
def ntM (mo : Int32) (cc : Nat → Nat) (cm : Nat → Int32) (r : Nat) : Nat → Int32 := if nC mo cc cm r = true then upd cm (40 * r + cc r) mo else cm
theorem ix1 (r j : Nat) : nI r * 40 + nI j = nI (40 * r + j) := by
  rw [show (40 : Int32) = nI 40 by decide, pk_mul, nI_add, Nat.mul_comm]
theorem ix2 (r j : Nat) : 40 * nI r + nI j = nI (40 * r + j) := by
  rw [show (40 : Int32) = nI 40 by decide, pk_mul, nI_add]
theorem nI_s1 {n : Nat} (h : 0 < n) : nI n - 1 = nI (n - 1) := by
  obtain ⟨k, rfl⟩ : ∃ k, n = k + 1 := ⟨n - 1, by omega⟩
  exact nI_pred k
theorem xNote {r : Nat} (hr : r ≤ 60) (hc : cc r ≤ 40) (hx : rX σ R lv hs ho cc cm L g mo) : ∃ σ', fX_noteChange K (nI r) σ = some (0, σ') ∧ rX σ' R lv hs ho (ntC mo cc cm r) (ntM mo cc cm r) L g mo := by
  obtain ⟨a1, a2, a3, a4, a5, a6, a7, a8, a9⟩ := hx
  have hin := inN (r := r) (N := 61) (by omega) (by omega)
  have hcl : (nI r).toNatClampNeg = r := nI_clamp (by omega)
  unfold fX_noteChange ntC ntM
  simp only [if_neg hin]
  simp only [hcl, a5, a6, a9]
  rw [ix1]
  have q1 : nI (cc r) < (40 : Int32) ↔ cc r < 40 := nI_ltI (b := 40) (by omega) (by omega)
  have q2 : nI (cc r) ≤ 0 ↔ cc r ≤ 0 := nI_leI (b := 0) (by omega) (by omega)
  by_cases c1 : cc r < 40
  · rw [if_pos (q1.mpr c1)]
    have hin2 := inN (r := 40 * r + cc r) (N := 2440) (by omega) (by omega)
    have hw : some ((0 : Int32), x_pchangeMoments (x_pchangeCounts σ (upd (fun j => nI (cc j)) r (nI (cc r) + 1))) (upd cm (nI (40 * r + cc r)).toNatClampNeg mo)) = some (0, x_pchangeMoments (x_pchangeCounts σ (fun j => nI (up cc r (cc r + 1) j))) (upd cm (40 * r + cc r) mo)) := by
      rw [nI_1, upd_nI, nI_clamp (by omega)]
    by_cases c2 : cc r ≤ 0
    · have hq : nC mo cc cm r = true := by simp [nC, c1]; omega
      rw [if_pos (q2.mpr c2), if_neg hin2, hw, if_pos hq, if_pos hq]
      exact ⟨_, rfl, a1, a2, a3, a4, rfl, rfl, a7, a8, a9⟩
    · have hin3 := inN (r := 40 * r + cc r - 1) (N := 2440) (by omega) (by omega)
      rw [if_neg (fun q => c2 (q2.mp q)), nI_s1 (by omega), if_neg hin3, nI_clamp (n := 40 * r + cc r - 1) (by omega)]
      by_cases c3 : cm (40 * r + cc r - 1) = mo
      · have hq : ¬ nC mo cc cm r = true := by simp [nC, c1, c3]; omega
        rw [if_pos c3, if_neg hq, if_neg hq]
        exact ⟨_, rfl, a1, a2, a3, a4, a5, a6, a7, a8, a9⟩
      · have hq : nC mo cc cm r = true := by simp [nC, c1, c3]
        rw [if_neg c3, if_neg hin2, hw, if_pos hq, if_pos hq]
        exact ⟨_, rfl, a1, a2, a3, a4, rfl, rfl, a7, a8, a9⟩
  · have hq : ¬ nC mo cc cm r = true := by simp [nC, c1]
    rw [if_neg (fun q => c1 (q1.mp q)), if_neg hq, if_neg hq]
    exact ⟨_, rfl, a1, a2, a3, a4, a5, a6, a7, a8, a9⟩
theorem mNote {r : Nat} (hr : r ≤ 60) (hc : cc r ≤ 40) (hm : rM τ R lv hs hh cc cm L g mo) : ∃ τ', fM_changed K (nI r) τ = some (0, τ') ∧ rM τ' R lv hs hh (ntC mo cc cm r) (ntM mo cc cm r) L g mo := by
  obtain ⟨a1, a2, a3, a4, a5, a6, a7, a8, a9⟩ := hm
  have hin := inN (r := r) (N := 61) (by omega) (by omega)
  have hcl : (nI r).toNatClampNeg = r := nI_clamp (by omega)
  unfold fM_changed ntC ntM
  simp only [if_neg hin]
  simp only [hcl, a5, a6, a9]
  rw [ix2]
  have q1 : (40 : Int32) ≤ nI (cc r) ↔ 40 ≤ cc r := nI_leI (a := 40) (by omega) (by omega)
  have q3 : ¬ (41 : Int32) ≤ nI (cc r) := nI_ge (b := 41) (by omega) (by omega)
  have q2 : nI (cc r) ≤ 0 ↔ cc r ≤ 0 := nI_leI (b := 0) (by omega) (by omega)
  have hw : cc r < 40 → some ((0 : Int32), m_ptimeCount (m_ptimes τ (upd cm (nI (40 * r + cc r)).toNatClampNeg mo)) (upd (fun j => nI (cc j)) r (nI (cc r) + 1))) = some (0, m_ptimeCount (m_ptimes τ (upd cm (40 * r + cc r) mo)) (fun j => nI (up cc r (cc r + 1) j))) := by
    intro h
    rw [nI_1, upd_nI, nI_clamp (by omega)]
  rw [if_neg q3]
  by_cases c1 : cc r < 40
  · have hin2 := inN (r := 40 * r + cc r) (N := 2440) (by omega) (by omega)
    have n1 : ¬ (40 : Int32) ≤ nI (cc r) := fun q => absurd (q1.mp q) (by omega)
    simp only [if_neg n1, if_neg hin2]
    rw [hw c1]
    by_cases c2 : cc r ≤ 0
    · have hq : nC mo cc cm r = true := by simp [nC, c1]; omega
      rw [if_pos (q2.mpr c2), if_pos hq, if_pos hq]
      exact ⟨_, rfl, a1, a2, a3, a4, rfl, rfl, a7, a8, a9⟩
    · have hin3 := inN (r := 40 * r + cc r - 1) (N := 2440) (by omega) (by omega)
      rw [if_neg (fun q => c2 (q2.mp q)), nI_s1 (by omega), if_neg hin3, nI_clamp (n := 40 * r + cc r - 1) (by omega)]
      by_cases c3 : cm (40 * r + cc r - 1) = mo
      · have hq : ¬ nC mo cc cm r = true := by simp [nC, c1, c3]; omega
        rw [if_pos c3, if_neg hq, if_neg hq]
        exact ⟨_, rfl, a1, a2, a3, a4, a5, a6, a7, a8, a9⟩
      · have hq : nC mo cc cm r = true := by simp [nC, c1, c3]
        rw [if_neg c3, if_pos hq, if_pos hq]
        exact ⟨_, rfl, a1, a2, a3, a4, rfl, rfl, a7, a8, a9⟩
  · have hq : ¬ nC mo cc cm r = true := by simp [nC, c1]
    have n1 : (40 : Int32) ≤ nI (cc r) := q1.mpr (by omega)
    have hin3 := inN (r := 40 * r + cc r - 1) (N := 2440) (by omega) (by omega)
    simp only [if_pos n1]
    rw [if_neg (fun q => absurd (q2.mp q) (by omega)), nI_s1 (by omega), if_neg hin3, if_neg hq, if_neg hq]
    by_cases c3 : cm (nI (40 * r + cc r - 1)).toNatClampNeg = mo
    · rw [if_pos c3]
      exact ⟨_, rfl, a1, a2, a3, a4, a5, a6, a7, a8, a9⟩
    · rw [if_neg c3]
      exact ⟨_, rfl, a1, a2, a3, a4, a5, a6, a7, a8, a9⟩
theorem ntC_le {r : Nat} (hc : ∀ j, cc j ≤ 40) : ∀ j, ntC mo cc cm r j ≤ 40 := by
  intro j
  unfold ntC
  by_cases c : nC mo cc cm r = true
  · rw [if_pos c]
    by_cases q : j = r
    · subst q
      rw [up_s]
      have : cc j < 40 := by
        simp [nC] at c
        exact c.1
      omega
    · rw [up_n q]; exact hc j
  · rw [if_neg c]; exact hc j
-- the links' arrays
theorem LR_app {lf li lt : Nat → Int32} {n : Int32} {f d t : Nat} (h : LR lf li lt n L) : LR (upd lf L.length (nI f)) (upd li L.length (nI d)) (upd lt L.length (nI t)) (nI (L.length + 1)) (L ++ [(f, d, t)]) := by
  refine ⟨by simp, fun k e hk => ?_⟩
  by_cases c : k < L.length
  · rw [List.getElem?_append_left c] at hk
    have hn : k ≠ L.length := by omega
    rw [pk_un hn, pk_un hn, pk_un hn]
    exact h.2 k e hk
  · rw [List.getElem?_append_right (by omega)] at hk
    have hz : k - L.length < 1 := (List.getElem?_eq_some_iff.mp hk).1
    have hk0 : k = L.length := by omega
    subst hk0
    rw [Nat.sub_self] at hk
    cases hk
    rw [pk_us, pk_us, pk_us]
    exact ⟨rfl, rfl, rfl⟩
theorem LR_set {lf li lt : Nat → Int32} {n : Int32} {k t : Nat} {e : Lk} (h : LR lf li lt n L) (he : L[k]? = some e) : LR lf li (upd lt k (nI t)) n (L.set k (e.1, e.2.1, t)) := by
  have hk := (List.getElem?_eq_some_iff.mp he).1
  refine ⟨by rw [List.length_set]; exact h.1, fun j x hj => ?_⟩
  by_cases c : j = k
  · subst c
    rw [List.getElem?_set_self hk] at hj
    cases hj
    obtain ⟨q1, q2, -⟩ := h.2 j e he
    exact ⟨q1, q2, pk_us⟩
  · rw [List.getElem?_set_ne (Ne.symm c)] at hj
    rw [pk_un c]
    exact h.2 j x hj
theorem LR_cpy {lf li lt : Nat → Int32} {n : Int32} {k : Nat} (h : LR lf li lt n L) (hk : k < L.length) : LR (va_cpy lf lf (k + 1) k (L.length - k - 1)) (va_cpy li li (k + 1) k (L.length - k - 1)) (va_cpy lt lt (k + 1) k (L.length - k - 1)) (nI (L.length - 1)) (L.eraseIdx k) := by
  refine ⟨by rw [List.length_eraseIdx_of_lt hk], fun j x hj => ?_⟩
  by_cases c : j < k
  · rw [List.getElem?_eraseIdx_of_lt c] at hj
    rw [pk_cpy_out (Or.inl c), pk_cpy_out (Or.inl c), pk_cpy_out (Or.inl c)]
    exact h.2 j x hj
  · rw [List.getElem?_eraseIdx_of_ge (by omega)] at hj
    have hl := (List.getElem?_eq_some_iff.mp hj).1
    rw [pk_cpy_in (by omega) (by omega), pk_cpy_in (by omega) (by omega), pk_cpy_in (by omega) (by omega), show k + 1 + (j - k) = j + 1 by omega]
    exact h.2 (j + 1) x hj
theorem xRemove {k : Nat} (hk : k < L.length) (hl : L.length ≤ 200) (hx : rX σ R lv hs ho cc cm L g mo) : ∃ σ', fX_removeLink K (nI k) σ = some (0, σ') ∧ rX σ' R lv hs ho cc cm (L.eraseIdx k) g mo := by
  obtain ⟨a1, a2, a3, a4, a5, a6, a7, a8, a9⟩ := hx
  unfold fX_removeLink
  rw [a7.1]
  have e1 : nI L.length - nI k - 1 = nI (L.length - k - 1) := by
    rw [pk_sub (by omega), nI_s1 (by omega)]
  have e2 : nI L.length - 1 = nI (L.length - 1) := nI_s1 (by omega)
  rw [e1, e2, nI_1]
  have hg : ¬ (nI (k + 1) < 0 ∨ nI k < 0 ∨ nI (L.length - k - 1) < 0 ∨ 200 < (nI (k + 1)).toNatClampNeg + (nI (L.length - k - 1)).toNatClampNeg ∨ 200 < (nI k).toNatClampNeg + (nI (L.length - k - 1)).toNatClampNeg) := by
    rw [nI_clamp (n := k + 1) (by omega), nI_clamp (n := k) (by omega), nI_clamp (n := L.length - k - 1) (by omega)]
    rintro (q | q | q | q | q)
    · exact nI_pos (by omega) q
    · exact nI_pos (by omega) q
    · exact nI_pos (by omega) q
    · omega
    · omega
  simp only [if_neg hg]
  rw [nI_clamp (n := k + 1) (by omega), nI_clamp (n := k) (by omega), nI_clamp (n := L.length - k - 1) (by omega)]
  exact ⟨_, rfl, a1, a2, a3, a4, a5, a6, LR_cpy a7 hk, a8, a9⟩
/-- while the reference shifts: below i the new list, from i on the old one -/
def LSh (lf li lt : Nat → Int32) (k i : Nat) (L : List Lk) : Prop := ∀ (j : Nat) (e : Lk), (j < i → (L.eraseIdx k)[j]? = some e → lf j = nI e.1 ∧ li j = nI e.2.1 ∧ lt j = nI e.2.2) ∧ (i ≤ j → L[j]? = some e → lf j = nI e.1 ∧ li j = nI e.2.1 ∧ lt j = nI e.2.2)
theorem mDropL {k : Nat} {p : Int32} (hk : k < L.length) (hl : L.length ≤ 200) : ∀ (m i n : Nat) (τ : MSt), m_records τ = nI R ∧ m_live τ = (fun j => b2i (lv j)) ∧ m_houses τ = hs ∧ m_hadHost τ = (fun j => nI (hh j)) ∧ m_timeCount τ = (fun j => nI (cc j)) ∧ m_times τ = cm ∧ m_links τ = nI (L.length - 1) ∧ RG (m_ring τ) (m_ringLength τ) g ∧ m_moment τ = mo → LSh (m_from τ) (m_field τ) (m_to τ) k i L → k ≤ i → i + m = L.length - 1 → m < n → ∃ τ', gM_drop_12 K n p (nI i) τ = some (0, τ') ∧ rM τ' R lv hs hh cc cm (L.eraseIdx k) g mo := by
  intro m
  induction m with
  | zero =>
    intro i n τ ⟨a1, a2, a3, a4, a5, a6, a7, a8, a9⟩ hS h1 h2 h3
    cases n with
    | zero => omega
    | succ n =>
      rw [gM_drop_12, a7, if_pos (nI_le (by omega) (by omega))]
      refine ⟨τ, rfl, a1, a2, a3, a4, a5, a6, ⟨by rw [a7, List.length_eraseIdx_of_lt hk], fun j e hj => ?_⟩, a8, a9⟩
      have hjl := (List.getElem?_eq_some_iff.mp hj).1
      rw [List.length_eraseIdx_of_lt hk] at hjl
      exact (hS j e).1 (by omega) hj
  | succ m ih =>
    intro i n τ ⟨a1, a2, a3, a4, a5, a6, a7, a8, a9⟩ hS h1 h2 h3
    cases n with
    | zero => omega
    | succ n =>
      have hin := inN (r := i) (N := 200) (by omega) (by omega)
      have hin1 := inN (r := i + 1) (N := 200) (by omega) (by omega)
      rw [gM_drop_12, a7, if_neg (nI_ge (by omega) (by omega)), nI_1]
      simp only [if_neg hin, if_neg hin1]
      rw [nI_clamp (n := i) (by omega), nI_clamp (n := i + 1) (by omega)]
      refine ih (i + 1) n _ ⟨a1, a2, a3, a4, a5, a6, a7, a8, a9⟩ ?_ (by omega) (by omega) (by omega)
      intro j e
      have hi1 : i + 1 < L.length := by omega
      obtain ⟨q1, q2, q3⟩ := (hS (i + 1) L[i + 1]).2 (by omega) (List.getElem?_eq_getElem hi1)
      refine ⟨fun hj hje => ?_, fun hj hje => ?_⟩
      · show upd (m_from τ) i _ j = _ ∧ upd (m_field τ) i _ j = _ ∧ upd (m_to τ) i _ j = _
        by_cases c : j = i
        · subst c
          rw [pk_us, pk_us, pk_us]
          rw [List.getElem?_eraseIdx_of_ge h1, List.getElem?_eq_getElem hi1] at hje
          cases hje
          exact ⟨q1, q2, q3⟩
        · rw [pk_un c, pk_un c, pk_un c]
          exact (hS j e).1 (by omega) hje
      · show upd (m_from τ) i _ j = _ ∧ upd (m_field τ) i _ j = _ ∧ upd (m_to τ) i _ j = _
        have c : j ≠ i := by omega
        rw [pk_un c, pk_un c, pk_un c]
        exact (hS j e).2 (by omega) hje
theorem mDrop {k : Nat} (hK : 300 ≤ K) (hk : k < L.length) (hl : L.length ≤ 200) (hm : rM τ R lv hs hh cc cm L g mo) : ∃ τ', fM_drop K (nI k) τ = some (0, τ') ∧ rM τ' R lv hs hh cc cm (L.eraseIdx k) g mo := by
  obtain ⟨a1, a2, a3, a4, a5, a6, a7, a8, a9⟩ := hm
  unfold fM_drop
  rw [a7.1, nI_s1 (by omega)]
  refine mDropL hk hl (L.length - 1 - k) k K _ ⟨a1, a2, a3, a4, a5, a6, rfl, a8, a9⟩ ?_ (Nat.le_refl _) (by omega) (by omega)
  intro j e
  refine ⟨fun hj hje => ?_, fun hj hje => a7.2 j e hje⟩
  rw [List.getElem?_eraseIdx_of_lt hj] at hje
  exact a7.2 j e hje
end NT
