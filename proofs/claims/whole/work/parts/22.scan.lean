/-! scans over the links -/
theorem bT : ¬ b2i true = 0 := by decide
theorem bF : b2i false = 0 := by decide
theorem dr_nil {α : Type} {L : List α} {i : Nat} (h : L.drop i = []) : L.length ≤ i := List.drop_eq_nil_iff.mp h
theorem dr_cons {α : Type} {L l : List α} {i : Nat} {e : α} (h : L.drop i = e :: l) : i < L.length ∧ L[i]? = some e ∧ L.drop (i + 1) = l := by
  have hi : i < L.length := by
    rcases Nat.lt_or_ge i L.length with q | q
    · exact q
    · rw [List.drop_eq_nil_iff.mpr q] at h; cases h
  rw [List.drop_eq_getElem_cons hi] at h
  cases h
  exact ⟨hi, List.getElem?_eq_getElem hi, rfl⟩
section SC
variable {σ : XSt} {τ : MSt} {R : Nat} {lv : Nat → Bool} {hs : Nat → Int32} {ho hh cc : Nat → Nat} {cm : Nat → Int32} {L : List Lk} {g : List Nat} {mo : Int32} {K : Nat}
def goS (p q i : Int32) : List Lk → Int32 → Int32
  | [], _ => 0
  | e :: l, s => if nI e.1 = p then (if nI e.2.1 = q then (if s = i then nI e.2.2 else goS p q i l (s + 1)) else goS p q i l s) else goS p q i l s
theorem xGoes {p q i : Int32} (hL : LR (x_linkFrom σ) (x_linkField σ) (x_linkTo σ) (x_links σ) L) (hl : L.length ≤ 200) : ∀ (l : List Lk) (j n : Nat) (s : Int32), L.drop j = l → j ≤ L.length → l.length < n → gX_goes_12 K n p q i s (nI j) σ = some (goS p q i l s, σ) := by
  intro l
  induction l with
  | nil =>
    intro j n s hd hj hn
    cases n with
    | zero => omega
    | succ n =>
      rw [gX_goes_12, hL.1, if_pos (nI_le (dr_nil hd) (by omega))]
      rfl
  | cons e l ih =>
    intro j n s hd hj hn
    cases n with
    | zero => omega
    | succ n =>
      obtain ⟨h1, h2, h3⟩ := dr_cons hd
      obtain ⟨e1, e2, e3⟩ := hL.2 j e h2
      have hin := inN (r := j) (N := 200) (by omega) (by omega)
      have hcl : (nI j).toNatClampNeg = j := nI_clamp (by omega)
      rw [gX_goes_12, hL.1, if_neg (nI_ge h1 (by omega))]
      simp only [if_neg hin]
      have i1 := fun s => ih (j + 1) n s h3 (by omega) (by simp at hn; omega)
      simp only [hcl, e1, e2, e3, nI_1, i1, goS]
      by_cases c1 : nI e.1 = p
      · by_cases c2 : nI e.2.1 = q
        · by_cases c3 : s = i <;> simp [c1, c2, c3]
        · simp [c1, c2]
      · simp [c1]
theorem mGoes {p q i : Int32} (hi0 : ¬ i < 0) (hL : LR (m_from τ) (m_field τ) (m_to τ) (m_links τ) L) (hl : L.length ≤ 200) : ∀ (l : List Lk) (j n : Nat) (s : Int32), L.drop j = l → j ≤ L.length → l.length < n → gM_goes_11 K n p q i s (nI j) τ = some (goS p q i l s, τ) := by
  intro l
  induction l with
  | nil =>
    intro j n s hd hj hn
    cases n with
    | zero => omega
    | succ n =>
      rw [gM_goes_11, hL.1, if_pos (nI_le (dr_nil hd) (by omega))]
      rfl
  | cons e l ih =>
    intro j n s hd hj hn
    cases n with
    | zero => omega
    | succ n =>
      obtain ⟨h1, h2, h3⟩ := dr_cons hd
      obtain ⟨e1, e2, e3⟩ := hL.2 j e h2
      have hin := inN (r := j) (N := 200) (by omega) (by omega)
      have hcl : (nI j).toNatClampNeg = j := nI_clamp (by omega)
      rw [gM_goes_11, hL.1, if_neg (nI_ge h1 (by omega)), if_neg hi0]
      simp only [if_neg hin]
      have i1 := fun s => ih (j + 1) n s h3 (by omega) (by simp at hn; omega)
      simp only [hcl, e1, e2, e3, nI_1, i1, goS]
      by_cases c1 : nI e.1 = p
      · by_cases c2 : nI e.2.1 = q
        · by_cases c3 : s = i <;> simp [c1, c2, c3]
        · simp [c1, c2]
      · simp [c1]
theorem sim_goes (hK : 300 ≤ K) (hR : Rel σ τ) (p q i : Int32) : Sim (fX_goes K p q i σ) (fM_goes K p q i τ) := by
  obtain ⟨R, lv, hs, ho, hh, cc, cm, L, g, mo, hx, hm, hL, hH, hN⟩ := hR
  have hm' := rM_thrown hm 0
  have hr : Rel σ (m_pthrown τ 0) := ⟨R, lv, hs, ho, hh, cc, cm, L, g, mo, hx, hm', hL, hH, hN⟩
  have h200 : L.length ≤ 200 := hL.2.2.1
  have hxl := hx.2.2.2.2.2.2.1
  have hml := hm'.2.2.2.2.2.2.1
  unfold fX_goes fM_goes
  by_cases c : i < 0
  · rw [if_neg (Int32.not_le.mpr c)]
    refine ⟨0, σ, m_pthrown τ 0, rfl, ?_, hr⟩
    obtain ⟨K, rfl⟩ : ∃ k, K = k + 1 := ⟨K - 1, by omega⟩
    rw [gM_goes_11]
    by_cases c2 : m_links (m_pthrown τ 0) ≤ 0
    · rw [if_pos c2]
    · rw [if_neg c2, if_pos c]
  · rw [if_pos (Int32.not_lt.mp c)]
    exact ⟨_, _, _, xGoes hxl h200 L 0 K 0 rfl (by omega) (by omega), mGoes c hml h200 L 0 K 0 rfl (by omega) (by omega), hr⟩
/-- the host, read off the links -/
def hoS (r : Nat) : List Lk → Nat
  | [] => 0
  | e :: l => if e.1 = r ∧ e.2.1 = 0 then e.2.2 else hoS r l
theorem mHost {r : Nat} (hr : r < 2 ^ 30) (hb : ∀ e ∈ L, e.1 ≤ 60 ∧ e.2.1 ≤ 9) (hL : LR (m_from τ) (m_field τ) (m_to τ) (m_links τ) L) (hl : L.length ≤ 200) : ∀ (l : List Lk) (j n : Nat), L.drop j = l → j ≤ L.length → l.length < n → gM_hostOf_2 K n (nI r) (nI j) τ = some (nI (hoS r l), τ) := by
  intro l
  induction l with
  | nil =>
    intro j n hd hj hn
    cases n with
    | zero => omega
    | succ n =>
      rw [gM_hostOf_2, hL.1, if_pos (nI_le (dr_nil hd) (by omega))]
      rfl
  | cons e l ih =>
    intro j n hd hj hn
    cases n with
    | zero => omega
    | succ n =>
      obtain ⟨h1, h2, h3⟩ := dr_cons hd
      obtain ⟨e1, e2, e3⟩ := hL.2 j e h2
      obtain ⟨b1, b2⟩ := hb e (List.mem_of_getElem? h2)
      have hin := inN (r := j) (N := 200) (by omega) (by omega)
      have hcl : (nI j).toNatClampNeg = j := nI_clamp (by omega)
      rw [gM_hostOf_2, hL.1, if_neg (nI_ge h1 (by omega))]
      simp only [if_neg hin]
      have i1 := ih (j + 1) n h3 (by omega) (by simp at hn; omega)
      have q1 : nI e.1 = nI r ↔ e.1 = r := nI_eq (by omega) (by omega)
      have q2 : nI e.2.1 = 0 ↔ e.2.1 = 0 := nI_eq (b := 0) (by omega) (by omega)
      simp only [hcl, e1, e2, e3, nI_1, i1, hoS, q1, q2]
      by_cases c1 : e.1 = r
      · by_cases c2 : e.2.1 = 0 <;> simp [c1, c2]
      · simp [c1]
theorem hoS_mem {r : Nat} : ∀ {l : List Lk}, (∃ t, (r, 0, t) ∈ l) → (r, 0, hoS r l) ∈ l := by
  intro l
  induction l with
  | nil => rintro ⟨t, h⟩; simp at h
  | cons e l ih =>
    rintro ⟨t, h⟩
    unfold hoS
    by_cases c : e.1 = r ∧ e.2.1 = 0
    · rw [if_pos c]
      obtain ⟨a, b, d⟩ := e
      obtain ⟨rfl, rfl⟩ := c
      exact List.mem_cons_self
    · rw [if_neg c]
      refine List.mem_cons_of_mem _ (ih ⟨t, ?_⟩)
      rcases List.mem_cons.mp h with q | q
      · subst q; exact absurd ⟨rfl, rfl⟩ c
      · exact q
theorem hoS_0 {r : Nat} : ∀ {l : List Lk}, (∀ t, ¬ (r, 0, t) ∈ l) → hoS r l = 0 := by
  intro l
  induction l with
  | nil => intro _; rfl
  | cons e l ih =>
    intro h
    unfold hoS
    by_cases c : e.1 = r ∧ e.2.1 = 0
    · obtain ⟨a, b, d⟩ := e
      obtain ⟨rfl, rfl⟩ := c
      exact absurd List.mem_cons_self (h d)
    · rw [if_neg c]
      exact ih (fun t q => h t (List.mem_cons_of_mem _ q))
theorem hoS_ho {r : Nat} (hH : IH lv ho L) (hr : lv r = true) : hoS r L = ho r := by
  by_cases c : ∃ t, (r, 0, t) ∈ L
  · exact (hH.1 _ _ (hoS_mem c)).symm
  · have h0 : hoS r L = 0 := hoS_0 (fun t q => c ⟨t, q⟩)
    rw [h0]
    by_cases c2 : ho r = 0
    · exact c2.symm
    · exact absurd ⟨_, hH.2.1 r hr c2⟩ c
theorem IL.b (hL : IL R lv L) (h60 : R ≤ 60) (hlv : ∀ j, lv j = true → 1 ≤ j ∧ j ≤ R) : ∀ e ∈ L, e.1 ≤ 60 ∧ e.2.1 ≤ 9 ∧ e.2.2 ≤ 99 := by
  intro e he
  obtain ⟨h1, h2, h3, h4⟩ := hL.1 e he
  have := hlv _ h1
  refine ⟨by omega, h2, ?_⟩
  by_cases c : e.2.1 < 4
  · have := h3 c; omega
  · have := h4 (by omega); omega
theorem mHostOf {r : Nat} (hK : 300 ≤ K) (hm : rM τ R lv hs hh cc cm L g mo) (hL : IL R lv L) (hH : IH lv ho L) (h60 : R ≤ 60) (hlv : ∀ j, lv j = true → 1 ≤ j ∧ j ≤ R) (hr : lv r = true) : fM_hostOf K (nI r) τ = some (nI (ho r), τ) := by
  have h200 : L.length ≤ 200 := hL.2.2.1
  have hb := hL.b h60 hlv
  have := hlv _ hr
  unfold fM_hostOf
  rw [← hoS_ho hH hr]
  exact mHost (by omega) (fun e he => ⟨(hb e he).1, (hb e he).2.1⟩) hm.2.2.2.2.2.2.1 h200 L 0 K rfl (by omega) (by omega)
theorem sim_host (hK : 300 ≤ K) (hR : Rel σ τ) (p : Int32) : Sim (fX_host K p σ) (fM_host K p τ) := by
  obtain ⟨R, lv, hs, ho, hh, cc, cm, L, g, mo, hx, hm, hL, hH, hN⟩ := hR
  have hm' := rM_thrown hm 0
  have hr : Rel σ (m_pthrown τ 0) := ⟨R, lv, hs, ho, hh, cc, cm, L, g, mo, hx, hm', hL, hH, hN⟩
  unfold fX_host fM_host
  rw [xLive hx hN.1, mLive hm' hN.1, Option.bind_some, Option.bind_some]
  dsimp only
  by_cases c : liveI R lv p = true
  · obtain ⟨r, r1, r2, rfl, hl⟩ := liveI_t hN.1 c
    have h60 := hN.1
    rw [c, if_neg bT, if_neg bT, if_neg (inN (by omega) (by omega)), nI_clamp (by omega), mHostOf hK hm' hL hH hN.1 hN.2.1 hl, Option.bind_some]
    dsimp only
    rw [hx.2.2.2.1]
    exact ⟨_, _, _, rfl, rfl, hr⟩
  · have c : liveI R lv p = false := by simpa using c
    rw [c, if_pos bF, if_pos bF]
    exact ⟨_, _, _, rfl, rfl, hr⟩
end SC
