/-! broken, orphan, record -/
section BR
variable {σ : XSt} {τ : MSt} {R : Nat} {lv : Nat → Bool} {hs : Nat → Int32} {ho hh cc : Nat → Nat} {cm : Nat → Int32} {L : List Lk} {g : List Nat} {mo : Int32} {K : Nat}
def isBr (lv : Nat → Bool) (e : Lk) : Bool := decide (e.2.1 < 4) && !(lv e.2.2)
def brS (lv : Nat → Bool) (i : Int32) : List Lk → Int32 → Nat → Option Nat
  | [], _, _ => none
  | e :: l, s, k => if isBr lv e = true then (if s = i then some k else brS lv i l (s + 1) (k + 1)) else brS lv i l s (k + 1)
def o2i (o : Option Nat) : Int32 := match o with
  | none => -1
  | some k => nI k
theorem xBrok {i : Int32} (hx : rX σ R lv hs ho cc cm L g mo) (hI : IL R lv L) (h60 : R ≤ 60) : ∀ (l : List Lk) (j n : Nat) (s : Int32), L.drop j = l → j ≤ L.length → l.length < n → gX_findBroken_10 K n i s (nI j) σ = some (o2i (brS lv i l s j), σ) := by
  have hL := hx.2.2.2.2.2.2.1
  have hv := hx.2.1
  have hl : L.length ≤ 200 := hI.2.2.1
  intro l
  induction l with
  | nil =>
    intro j n s hd hj hn
    cases n with
    | zero => omega
    | succ n =>
      rw [gX_findBroken_10, hL.1, if_pos (nI_le (dr_nil hd) (by omega))]
      rfl
  | cons e l ih =>
    intro j n s hd hj hn
    cases n with
    | zero => omega
    | succ n =>
      obtain ⟨h1, h2, h3⟩ := dr_cons hd
      obtain ⟨e1, e2, e3⟩ := hL.2 j e h2
      obtain ⟨b1, b2, b3, b4⟩ := hI.1 e (List.mem_of_getElem? h2)
      have hin := inN (r := j) (N := 200) (by omega) (by omega)
      have hcl : (nI j).toNatClampNeg = j := nI_clamp (by omega)
      rw [gX_findBroken_10, hL.1, if_neg (nI_ge h1 (by omega))]
      simp only [if_neg hin]
      have i1 := fun s => ih (j + 1) n s h3 (by omega) (by simp at hn; omega)
      simp only [hcl, e1, e2, e3, nI_1, i1, brS]
      by_cases c1 : e.2.1 < 4
      · have n1 : ¬ (4 : Int32) ≤ nI e.2.1 := nI_ge (b := 4) c1 (by omega)
        obtain ⟨t1, t2⟩ := b3 c1
        rw [if_neg n1, if_neg (inN (by omega) (by omega)), nI_clamp (by omega), hv]
        cases hb : lv e.2.2
        · have q : isBr lv e = true := by simp [isBr, c1, hb]
          rw [if_pos q, if_pos (by simp [hb, b2i])]
          by_cases c3 : s = i <;> simp [c3, o2i]
        · have q : ¬ isBr lv e = true := by simp [isBr, hb]
          rw [if_neg q, if_neg (by simp [hb, b2i])]
      · have n1 : (4 : Int32) ≤ nI e.2.1 := nI_le (a := 4) (by omega) (by omega)
        have q : ¬ isBr lv e = true := by simp [isBr, c1]
        rw [if_pos n1, if_neg q]
theorem mIsBr {j : Nat} {e : Lk} (hm : rM τ R lv hs hh cc cm L g mo) (hI : IL R lv L) (h60 : R ≤ 60) (he : L[j]? = some e) : fM_isBroken K (nI j) τ = some (b2i (isBr lv e), τ) := by
  have hL := hm.2.2.2.2.2.2.1
  have hv := hm.2.1
  have hl : L.length ≤ 200 := hI.2.2.1
  have h1 : j < L.length := (List.getElem?_eq_some_iff.mp he).1
  obtain ⟨e1, e2, e3⟩ := hL.2 j e he
  obtain ⟨b1, b2, b3, b4⟩ := hI.1 e (List.mem_of_getElem? he)
  have hin := inN (r := j) (N := 200) (by omega) (by omega)
  have hcl : (nI j).toNatClampNeg = j := nI_clamp (by omega)
  unfold fM_isBroken
  simp only [if_neg hin]
  simp only [hcl, e1, e2, e3]
  by_cases c1 : e.2.1 < 4
  · have n1 : ¬ (4 : Int32) ≤ nI e.2.1 := nI_ge (b := 4) c1 (by omega)
    obtain ⟨t1, t2⟩ := b3 c1
    rw [if_neg n1, if_neg (inN (by omega) (by omega)), nI_clamp (by omega), hv]
    cases hb : lv e.2.2
    · simp [isBr, c1, hb, b2i]
    · simp [isBr, hb, b2i]
  · have n1 : (4 : Int32) ≤ nI e.2.1 := nI_le (a := 4) (by omega) (by omega)
    rw [if_pos n1]
    simp [isBr, c1, b2i]
theorem mBrok {i : Int32} (hi0 : ¬ i < 0) (hm : rM τ R lv hs hh cc cm L g mo) (hI : IL R lv L) (h60 : R ≤ 60) : ∀ (l : List Lk) (j n : Nat) (s : Int32), L.drop j = l → j ≤ L.length → l.length < n → gM_brokenAt_4 K n i s (nI j) τ = some (o2i (brS lv i l s j), τ) := by
  have hL := hm.2.2.2.2.2.2.1
  have hl : L.length ≤ 200 := hI.2.2.1
  intro l
  induction l with
  | nil =>
    intro j n s hd hj hn
    cases n with
    | zero => omega
    | succ n =>
      rw [gM_brokenAt_4, hL.1, if_pos (nI_le (dr_nil hd) (by omega))]
      rfl
  | cons e l ih =>
    intro j n s hd hj hn
    cases n with
    | zero => omega
    | succ n =>
      obtain ⟨h1, h2, h3⟩ := dr_cons hd
      have i1 := fun s => ih (j + 1) n s h3 (by omega) (by simp at hn; omega)
      rw [gM_brokenAt_4, hL.1, if_neg (nI_ge h1 (by omega)), if_neg hi0, mIsBr hm hI h60 h2, Option.bind_some]
      simp only [nI_1, i1, brS]
      cases hb : isBr lv e
      · simp [b2i]
      · by_cases c3 : s = i <;> simp [c3, o2i, b2i]
theorem brS_some {i : Int32} : ∀ {l : List Lk} {s : Int32} {j k : Nat}, brS lv i l s j = some k → ∃ e, j ≤ k ∧ l[k - j]? = some e ∧ isBr lv e = true := by
  intro l
  induction l with
  | nil => intro s j k h; simp [brS] at h
  | cons e l ih =>
    intro s j k h
    unfold brS at h
    have up : ∀ {s : Int32}, brS lv i l s (j + 1) = some k → ∃ e', j ≤ k ∧ (e :: l)[k - j]? = some e' ∧ isBr lv e' = true := by
      intro s h
      obtain ⟨e', q1, q2, q3⟩ := ih h
      refine ⟨e', by omega, ?_, q3⟩
      rw [show k - j = (k - (j + 1)) + 1 by omega, List.getElem?_cons_succ]
      exact q2
    by_cases c : isBr lv e = true
    · rw [if_pos c] at h
      by_cases c2 : s = i
      · rw [if_pos c2] at h
        cases h
        exact ⟨e, Nat.le_refl _, by rw [Nat.sub_self]; rfl, c⟩
      · rw [if_neg c2] at h
        exact up h
    · rw [if_neg c] at h
      exact up h
theorem xFindB {i : Int32} (hK : 300 ≤ K) (hx : rX σ R lv hs ho cc cm L g mo) (hI : IL R lv L) (h60 : R ≤ 60) : fX_findBroken K i σ = some (o2i (if i < 0 then none else brS lv i L 0 0), σ) := by
  have hl : L.length ≤ 200 := hI.2.2.1
  unfold fX_findBroken
  by_cases c : i < 0
  · rw [if_neg (Int32.not_le.mpr c), if_pos c]; rfl
  · rw [if_pos (Int32.not_lt.mp c), if_neg c]
    exact xBrok hx hI h60 L 0 K 0 rfl (by omega) (by omega)
theorem mBrokenAt {i : Int32} (hK : 300 ≤ K) (hm : rM τ R lv hs hh cc cm L g mo) (hI : IL R lv L) (h60 : R ≤ 60) : fM_brokenAt K i τ = some (o2i (if i < 0 then none else brS lv i L 0 0), τ) := by
  have hl : L.length ≤ 200 := hI.2.2.1
  unfold fM_brokenAt
  by_cases c : i < 0
  · rw [if_pos c]
    obtain ⟨K, rfl⟩ : ∃ k, K = k + 1 := ⟨K - 1, by omega⟩
    rw [gM_brokenAt_4]
    by_cases c2 : m_links τ ≤ 0
    · rw [if_pos c2]; rfl
    · rw [if_neg c2, if_pos c]; rfl
  · rw [if_neg c]
    exact mBrok c hm hI h60 L 0 K 0 rfl (by omega) (by omega)
theorem nI_m1 {k : Nat} (h : k < 2 ^ 31) : ¬ nI k = -1 := by
  intro q
  have := congrArg Int32.toInt q
  rw [nI_toInt h] at this
  have e : (-1 : Int32).toInt = -1 := by decide
  rw [e] at this
  omega
theorem sim_broken (hK : 300 ≤ K) (hR : Rel σ τ) (i w : Int32) : Sim (fX_broken K i w σ) (fM_broken K i w τ) := by
  obtain ⟨R, lv, hs, ho, hh, cc, cm, L, g, mo, hx, hm, hL, hH, hN⟩ := hR
  have hm' := rM_thrown hm 0
  have hr : Rel σ (m_pthrown τ 0) := ⟨R, lv, hs, ho, hh, cc, cm, L, g, mo, hx, hm', hL, hH, hN⟩
  have hl : L.length ≤ 200 := hL.2.2.1
  unfold fX_broken fM_broken
  rw [xFindB hK hx hL hN.1, mBrokenAt hK hm' hL hN.1, Option.bind_some, Option.bind_some]
  dsimp only
  cases hb : (if i < 0 then none else brS lv i L 0 0) with
  | none => exact ⟨_, _, _, rfl, rfl, hr⟩
  | some k =>
    have hb : brS lv i L 0 0 = some k := by
      by_cases c : i < 0
      · rw [if_pos c] at hb; cases hb
      · rw [if_neg c] at hb; exact hb
    obtain ⟨e, -, he, -⟩ := brS_some hb
    rw [Nat.sub_zero] at he
    have hk : k < L.length := (List.getElem?_eq_some_iff.mp he).1
    obtain ⟨a1, a2, a3⟩ := hx.2.2.2.2.2.2.1.2 k e he
    obtain ⟨d1, d2, d3⟩ := hm'.2.2.2.2.2.2.1.2 k e he
    have hin := inN (r := k) (N := 200) (by omega) (by omega)
    have hcl : (nI k).toNatClampNeg = k := nI_clamp (by omega)
    have h1 : ¬ nI k = -1 := nI_m1 (by omega)
    rw [show o2i (some k) = nI k from rfl, if_neg h1, if_neg h1]
    simp only [if_neg hin]
    simp only [hcl, a1, a2, a3, d1, d2, d3]
    by_cases c0 : w = 0
    · rw [if_pos c0, if_pos c0]; exact ⟨_, _, _, rfl, rfl, hr⟩
    · rw [if_neg c0, if_neg c0]
      by_cases c1 : w = 1
      · rw [if_pos c1, if_pos c1]; exact ⟨_, _, _, rfl, rfl, hr⟩
      · rw [if_neg c1, if_neg c1]
        by_cases c2 : w = 2
        · rw [if_pos c2, if_pos c2]; exact ⟨_, _, _, rfl, rfl, hr⟩
        · rw [if_neg c2, if_neg c2]; exact ⟨_, _, _, rfl, rfl, hr⟩
/-- a link at a record -/
def lnk (k : Nat) (e : Lk) : Bool := e.1 == k || (decide (e.2.1 < 4) && e.2.2 == k)
theorem xLinked {k : Nat} (hk : k < 2 ^ 30) (hx : rX σ R lv hs ho cc cm L g mo) (hb : ∀ e ∈ L, e.1 ≤ 60 ∧ e.2.1 ≤ 9 ∧ e.2.2 ≤ 99) (hl : L.length ≤ 200) : ∀ (l : List Lk) (j n : Nat), L.drop j = l → j ≤ L.length → l.length < n → gX_isLinked_2 K n (nI k) (nI j) σ = some (b2i (l.any (lnk k)), σ) := by
  have hL := hx.2.2.2.2.2.2.1
  intro l
  induction l with
  | nil =>
    intro j n hd hj hn
    cases n with
    | zero => omega
    | succ n =>
      rw [gX_isLinked_2, hL.1, if_pos (nI_le (dr_nil hd) (by omega))]
      rfl
  | cons e l ih =>
    intro j n hd hj hn
    cases n with
    | zero => omega
    | succ n =>
      obtain ⟨h1, h2, h3⟩ := dr_cons hd
      obtain ⟨e1, e2, e3⟩ := hL.2 j e h2
      obtain ⟨b1, b2, b3⟩ := hb e (List.mem_of_getElem? h2)
      have hin := inN (r := j) (N := 200) (by omega) (by omega)
      have hcl : (nI j).toNatClampNeg = j := nI_clamp (by omega)
      rw [gX_isLinked_2, hL.1, if_neg (nI_ge h1 (by omega))]
      simp only [if_neg hin]
      have i1 := ih (j + 1) n h3 (by omega) (by simp at hn; omega)
      have q1 : nI e.1 = nI k ↔ e.1 = k := nI_eq (by omega) (by omega)
      have q2 : nI e.2.2 = nI k ↔ e.2.2 = k := nI_eq (by omega) (by omega)
      have q3 : (4 : Int32) ≤ nI e.2.1 ↔ 4 ≤ e.2.1 := nI_leI (a := 4) (by omega) (by omega)
      simp only [hcl, e1, e2, e3, nI_1, i1, q1, q2, q3]
      rw [List.any_cons]
      by_cases c1 : e.1 = k
      · have q : lnk k e = true := by simp [lnk, c1]
        rw [q, Bool.true_or, b2i_t]
        by_cases c2 : 4 ≤ e.2.1
        · rw [if_pos c2, if_pos c1]
        · rw [if_neg c2]
          by_cases c3 : e.2.2 = k
          · rw [if_pos c3]
          · rw [if_neg c3, if_pos c1]
      · by_cases c2 : 4 ≤ e.2.1
        · have c2' : ¬ e.2.1 < 4 := by omega
          have q : lnk k e = false := by simp [lnk, c1]; omega
          rw [q, Bool.false_or, if_pos c2, if_neg c1]
        · have c2' : e.2.1 < 4 := by omega
          rw [if_neg c2]
          by_cases c3 : e.2.2 = k
          · have q : lnk k e = true := by simp [lnk, c3]; omega
            rw [q, Bool.true_or, b2i_t, if_pos c3]
          · have q : lnk k e = false := by simp [lnk, c1, c3]
            rw [q, Bool.false_or, if_neg c3, if_neg c1]
/-- the i-th of those with P, from k on, m numbers -/
def orS (P : Nat → Bool) (i : Int32) : Nat → Nat → Int32 → Int32
  | 0, _, _ => 0
  | m + 1, k, s => if P k = true then (if s = i then nI k else orS P i m (k + 1) (s + 1)) else orS P i m (k + 1) s
def isOr (lv : Nat → Bool) (L : List Lk) (k : Nat) : Bool := lv k && !(L.any (lnk k))
theorem xOrph {i : Int32} (hK : 300 ≤ K) (hx : rX σ R lv hs ho cc cm L g mo) (hb : ∀ e ∈ L, e.1 ≤ 60 ∧ e.2.1 ≤ 9 ∧ e.2.2 ≤ 99) (hl : L.length ≤ 200) (h60 : R ≤ 60) : ∀ (m k n : Nat) (s : Int32), 1 ≤ k → k + m = R + 1 → m < n → gX_orphan_10 K n i s (nI k) σ = some (orS (isOr lv L) i m k s, σ) := by
  have hv := hx.2.1
  have hr := hx.1
  intro m
  induction m with
  | zero =>
    intro k n s h1 h2 h3
    cases n with
    | zero => omega
    | succ n =>
      rw [gX_orphan_10, hr, if_pos (nI_lt (by omega) (by omega))]
      rfl
  | succ m ih =>
    intro k n s h1 h2 h3
    cases n with
    | zero => omega
    | succ n =>
      have i1 := fun s => ih (k + 1) n s (by omega) (by omega) (by omega)
      rw [gX_orphan_10, hr, if_neg (nI_nlt (by omega) (by omega)), if_neg (inN (by omega) (by omega)), nI_clamp (by omega), hv]
      have hlk : fX_isLinked K (nI k) σ = some (b2i (L.any (lnk k)), σ) := xLinked (by omega) hx hb hl L 0 K rfl (by omega) (by omega)
      simp only [hlk, Option.bind_some, nI_1, i1, orS]
      cases hb1 : lv k
      · have q : ¬ isOr lv L k = true := by simp [isOr, hb1]
        rw [if_neg q, if_pos bF]
      · cases hb2 : L.any (lnk k)
        · have q : isOr lv L k = true := by simp only [isOr, hb1, hb2]; rfl
          rw [if_pos q, if_neg bT, if_pos bF]
          by_cases c3 : s = i <;> simp [c3]
        · have q : ¬ isOr lv L k = true := by simp only [isOr, hb1, hb2]; decide
          rw [if_neg q, if_neg bT, if_neg bT]
theorem mOrIn {i x2 : Int32} {c : Int32 → Int32 → Int32 → MSt → Option (Int32 × MSt)} {k : Nat} (hk : k < 2 ^ 30) (hm : rM τ R lv hs hh cc cm L g mo) (hb : ∀ e ∈ L, e.1 ≤ 60 ∧ e.2.1 ≤ 9 ∧ e.2.2 ≤ 99) (hl : L.length ≤ 200) : ∀ (l : List Lk) (j n : Nat) (b : Bool), L.drop j = l → j ≤ L.length → l.length < n → gM_orphan_32 K c n i x2 (nI k) (b2i b) (nI j) τ = if (b && !(l.any (lnk k))) = true then (if x2 = i then some (nI k, τ) else c i (x2 + 1) (nI (k + 1)) τ) else c i x2 (nI (k + 1)) τ := by
  have hL := hm.2.2.2.2.2.2.1
  intro l
  induction l with
  | nil =>
    intro j n b hd hj hn
    cases n with
    | zero => omega
    | succ n =>
      rw [gM_orphan_32, hL.1, if_pos (nI_le (dr_nil hd) (by omega)), nI_1]
      cases b <;> simp [b2i]
  | cons e l ih =>
    intro j n b hd hj hn
    cases n with
    | zero => omega
    | succ n =>
      obtain ⟨h1, h2, h3⟩ := dr_cons hd
      obtain ⟨e1, e2, e3⟩ := hL.2 j e h2
      obtain ⟨b1, b2, b3⟩ := hb e (List.mem_of_getElem? h2)
      have hin := inN (r := j) (N := 200) (by omega) (by omega)
      have hcl : (nI j).toNatClampNeg = j := nI_clamp (by omega)
      have i0 := ih (j + 1) n false h3 (by omega) (by simp at hn; omega)
      have i1 := ih (j + 1) n true h3 (by omega) (by simp at hn; omega)
      rw [b2i_f] at i0
      rw [b2i_t] at i1
      rw [gM_orphan_32, hL.1, if_neg (nI_ge h1 (by omega))]
      simp only [if_neg hin]
      have q1 : nI e.1 = nI k ↔ e.1 = k := nI_eq (by omega) (by omega)
      have q2 : nI e.2.2 = nI k ↔ e.2.2 = k := nI_eq (by omega) (by omega)
      have q3 : (3 : Int32) < nI e.2.1 ↔ 3 < e.2.1 := nI_ltI (a := 3) (by omega) (by omega)
      simp only [hcl, e1, e2, e3, nI_1, i0, i1, q1, q2, q3]
      rw [List.any_cons]
      cases b
      · rw [if_pos bF, Bool.false_and, Bool.false_and]
      · rw [if_neg bT]
        by_cases c1 : e.1 = k
        · have q : lnk k e = true := by simp [lnk, c1]
          rw [q, Bool.true_or, if_pos c1]
          rfl
        · rw [if_neg c1]
          by_cases c2 : 3 < e.2.1
          · have q : lnk k e = false := by simp [lnk, c1]; omega
            rw [q, Bool.false_or, if_pos c2]
          · rw [if_neg c2]
            by_cases c3 : e.2.2 = k
            · have q : lnk k e = true := by simp [lnk, c3]; omega
              rw [q, Bool.true_or, if_pos c3]
              rfl
            · have q : lnk k e = false := by simp [lnk, c1, c3]
              rw [q, Bool.false_or, if_neg c3]
theorem mOrph {i : Int32} (hi0 : ¬ i < 0) (hK : 300 ≤ K) (hm : rM τ R lv hs hh cc cm L g mo) (hb : ∀ e ∈ L, e.1 ≤ 60 ∧ e.2.1 ≤ 9 ∧ e.2.2 ≤ 99) (hl : L.length ≤ 200) (h60 : R ≤ 60) : ∀ (m k n : Nat) (s : Int32), 1 ≤ k → k + m = R + 1 → m < n → gM_orphan_9 K n i s (nI k) τ = some (orS (isOr lv L) i m k s, τ) := by
  have hv := hm.2.1
  have hr := hm.1
  intro m
  induction m with
  | zero =>
    intro k n s h1 h2 h3
    cases n with
    | zero => omega
    | succ n =>
      rw [gM_orphan_9, hr, if_pos (nI_lt (by omega) (by omega))]
      rfl
  | succ m ih =>
    intro k n s h1 h2 h3
    cases n with
    | zero => omega
    | succ n =>
      have i1 := fun s => ih (k + 1) n s (by omega) (by omega) (by omega)
      rw [gM_orphan_9, hr, if_neg (nI_nlt (by omega) (by omega)), if_neg hi0, if_neg (inN (by omega) (by omega)), nI_clamp (by omega), hv]
      have hin : gM_orphan_32 K (fun (y0 y1 y2 : Int32) (t : MSt) => gM_orphan_9 K n y0 y1 y2 t) K i s (nI k) (b2i (lv k)) 0 τ = _ := mOrIn (by omega) hm hb hl L 0 K (lv k) rfl (by omega) (by omega)
      rw [hin]
      simp only [i1, orS]
      by_cases q : isOr lv L k = true
      · rw [if_pos (show (lv k && !L.any (lnk k)) = true from q), if_pos q]
        by_cases c3 : s = i <;> simp [c3]
      · rw [if_neg (show ¬ (lv k && !L.any (lnk k)) = true from q), if_neg q]
theorem sim_orphan (hK : 300 ≤ K) (hR : Rel σ τ) (i : Int32) : Sim (fX_orphan K i σ) (fM_orphan K i τ) := by
  obtain ⟨R, lv, hs, ho, hh, cc, cm, L, g, mo, hx, hm, hL, hH, hN⟩ := hR
  have hm' := rM_thrown hm 0
  have hr : Rel σ (m_pthrown τ 0) := ⟨R, lv, hs, ho, hh, cc, cm, L, g, mo, hx, hm', hL, hH, hN⟩
  have hl : L.length ≤ 200 := hL.2.2.1
  have hb := hL.b hN.1 hN.2.1
  have h60 := hN.1
  unfold fX_orphan fM_orphan
  by_cases c : i < 0
  · rw [if_neg (Int32.not_le.mpr c)]
    refine ⟨0, σ, m_pthrown τ 0, rfl, ?_, hr⟩
    obtain ⟨K, rfl⟩ : ∃ k, K = k + 1 := ⟨K - 1, by omega⟩
    rw [gM_orphan_9]
    by_cases c2 : m_records (m_pthrown τ 0) < 1
    · rw [if_pos c2]
    · rw [if_neg c2, if_pos c]
  · rw [if_pos (Int32.not_lt.mp c)]
    exact ⟨_, _, _, xOrph hK hx hb hl h60 R 1 K 0 (by omega) (by omega) (by omega), mOrph c hK hm' hb hl h60 R 1 K 0 (by omega) (by omega) (by omega), hr⟩
end BR
