/-! chains of hosts: chain, move; record -/
theorem Chn_uniq {ho : Nat → Nat} : ∀ {c d : List Nat} {r : Nat}, Chn ho r c → Chn ho r d → c = d := by
  intro c
  induction c with
  | nil =>
    intro d r h1 h2
    cases d with
    | nil => rfl
    | cons y d => obtain ⟨q1, q2, -⟩ := h2; exact absurd (q1.symm.trans h1) q2
  | cons x c ih =>
    intro d r h1 h2
    obtain ⟨p1, p2, p3⟩ := h1
    cases d with
    | nil => exact absurd (p1.symm.trans h2) p2
    | cons y d =>
      obtain ⟨q1, q2, q3⟩ := h2
      have e : x = y := p1.symm.trans q1
      subst e
      rw [ih p3 q3]
theorem Chn_suf {ho : Nat → Nat} {x : Nat} {b : List Nat} : ∀ {a : List Nat} {r : Nat}, Chn ho r (a ++ x :: b) → Chn ho x (x :: b) := by
  intro a
  induction a with
  | nil => intro r h; obtain ⟨h1, h2, h3⟩ := h; exact ⟨rfl, h2, h3⟩
  | cons y a ih => intro r h; exact ih h.2.2
theorem Chn_nodup {ho : Nat → Nat} : ∀ {c : List Nat} {r : Nat}, Chn ho r c → c.Nodup := by
  intro c
  induction c with
  | nil => intro r _; exact List.nodup_nil
  | cons x c ih =>
    intro r h
    refine List.nodup_cons.mpr ⟨fun hx => ?_, ih h.2.2⟩
    obtain ⟨a, b, rfl⟩ := List.append_of_mem hx
    have h1 : Chn ho x (x :: b) := Chn_suf h.2.2
    have h2 : Chn ho x (x :: (a ++ x :: b)) := ⟨rfl, h.2.1, h.2.2⟩
    have e := congrArg List.length (Chn_uniq h1 h2)
    simp at e
    omega
theorem nd_le {α : Type} [BEq α] [LawfulBEq α] : ∀ {l d : List α}, l.Nodup → (∀ x ∈ l, x ∈ d) → l.length ≤ d.length := by
  intro l
  induction l with
  | nil => intro d _ _; exact Nat.zero_le _
  | cons x l ih =>
    intro d h1 h2
    obtain ⟨n1, n2⟩ := List.nodup_cons.mp h1
    have hx := h2 x List.mem_cons_self
    have h3 := ih (d := d.erase x) n2 (fun y hy => (List.mem_erase_of_ne (fun (e : y = x) => n1 (e ▸ hy))).mpr (h2 y (List.mem_cons_of_mem _ hy)))
    rw [List.length_erase_of_mem hx] at h3
    have := List.length_pos_of_mem hx
    simp only [List.length_cons]
    omega
theorem Chn_len {ho : Nat → Nat} {lv : Nat → Bool} {R r : Nat} {c : List Nat} (hR : R ≤ 60) (hlv : ∀ j, lv j = true → 1 ≤ j ∧ j ≤ R) (h : Chn ho r c) (hc : ∀ x ∈ c, lv x = true) : c.length ≤ 60 := by
  have h1 := nd_le (d := List.range' 1 60) (Chn_nodup h) (fun x hx => by
    have := hlv x (hc x hx)
    rw [List.mem_range'_1]
    omega)
  rw [List.length_range'] at h1
  exact h1
section CH
variable {σ : XSt} {τ : MSt} {R : Nat} {lv : Nat → Bool} {hs : Nat → Int32} {ho hh cc : Nat → Nat} {cm : Nat → Int32} {L : List Lk} {g : List Nat} {mo : Int32} {K : Nat}
theorem xLies {p : Int32} {b : Nat} (hb : b < 2 ^ 30) (hx : rX σ R lv hs ho cc cm L g mo) (h60 : R ≤ 60) (hlv : ∀ j, lv j = true → 1 ≤ j ∧ j ≤ R) : ∀ (c : List Nat) (at_ st n : Nat), Chn ho at_ c → (∀ x ∈ c, lv x = true) → st + c.length ≤ 60 → c.length < n → gX_liesIn_10 K n p (nI b) (nI at_) (nI st) σ = some (b2i (decide (b ∈ c)), σ) := by
  have hh := hx.2.2.2.1
  intro c
  induction c with
  | nil =>
    intro at_ st n h1 h2 h3 h4
    cases n with
    | zero => simp at h4
    | succ n =>
      have e : at_ = 0 := h1
      subst e
      simp at h3
      rw [gX_liesIn_10]
      by_cases c1 : (60 : Int32) ≤ nI st
      · rw [if_pos c1]; simp [b2i]
      · rw [if_neg c1, if_pos (show nI 0 = 0 from rfl)]; simp [b2i]
  | cons x c ih =>
    intro at_ st n h1 h2 h3 h4
    cases n with
    | zero => simp at h4
    | succ n =>
      obtain ⟨rfl, p2, p3⟩ := h1
      simp only [List.length_cons] at h3 h4
      have hx1 := hlv at_ (h2 at_ List.mem_cons_self)
      rw [gX_liesIn_10, if_neg (show ¬ (60 : Int32) ≤ nI st from nI_ge (a := st) (b := 60) (by omega) (by omega)), if_neg (nI_ne0 (by omega) (by omega))]
      by_cases c1 : at_ = b
      · subst c1
        rw [if_pos rfl]
        simp [b2i]
      · rw [if_neg (fun q => c1 (nI_inj (by omega) (by omega) q)), if_neg (inN (by omega) (by omega)), nI_clamp (by omega), hh]
        dsimp only
        rw [nI_1, ih (ho at_) (st + 1) n p3 (fun y hy => h2 y (List.mem_cons_of_mem _ hy)) (by omega) (by omega)]
        have e : decide (b ∈ at_ :: c) = decide (b ∈ c) := by
          have : ¬ b = at_ := fun q => c1 q.symm
          simp [this]
        rw [e]
theorem xLiesIn {a b : Nat} {c : List Nat} (hK : 300 ≤ K) (hb : b < 2 ^ 30) (hx : rX σ R lv hs ho cc cm L g mo) (h60 : R ≤ 60) (hlv : ∀ j, lv j = true → 1 ≤ j ∧ j ≤ R) (ha : lv a = true) (hc : Chn ho a c) (hcl : ∀ x ∈ c, lv x = true) (hab : ¬ a = b) : fX_liesIn K (nI a) (nI b) σ = some (b2i (decide (b ∈ c)), σ) := by
  have ha1 := hlv a ha
  unfold fX_liesIn
  rw [if_neg (inN (by omega) (by omega)), nI_clamp (by omega), hx.2.2.2.1]
  cases c with
  | nil => have : a = 0 := hc; omega
  | cons x c =>
    have hlen := Chn_len h60 hlv hc hcl
    obtain ⟨rfl, p2, p3⟩ := hc
    simp only [List.length_cons] at hlen
    have e : decide (b ∈ a :: c) = decide (b ∈ c) := by
      have : ¬ b = a := fun q => hab q.symm
      simp [this]
    rw [e]
    exact xLies hb hx h60 hlv c (ho a) 0 K p3 (fun y hy => hcl y (List.mem_cons_of_mem _ hy)) (by omega) (by omega)
theorem mLies {p : Int32} {b : Nat} (hK : 300 ≤ K) (hb : b < 2 ^ 30) (hb0 : 1 ≤ b) (hm : rM τ R lv hs hh cc cm L g mo) (hL : IL R lv L) (hH : IH lv ho L) (h60 : R ≤ 60) (hlv : ∀ j, lv j = true → 1 ≤ j ∧ j ≤ R) : ∀ (c : List Nat) (at_ n : Nat), Chn ho at_ c → (∀ x ∈ c, lv x = true) → c.length < n → gM_liesIn_2 K n p (nI b) (nI at_) τ = some (b2i (decide (b ∈ c)), τ) := by
  intro c
  induction c with
  | nil =>
    intro at_ n h1 h2 h4
    cases n with
    | zero => simp at h4
    | succ n =>
      have e : at_ = 0 := h1
      subst e
      rw [gM_liesIn_2, if_pos (show nI 0 = 0 from rfl), if_neg (fun q => by have := nI_inj (by omega) (by omega) q; omega)]
      simp [b2i]
  | cons x c ih =>
    intro at_ n h1 h2 h4
    cases n with
    | zero => simp at h4
    | succ n =>
      obtain ⟨rfl, p2, p3⟩ := h1
      simp only [List.length_cons] at h4
      have hx0 := h2 at_ List.mem_cons_self
      have hx1 := hlv at_ hx0
      rw [gM_liesIn_2, if_neg (nI_ne0 (by omega) (by omega))]
      by_cases c1 : at_ = b
      · subst c1
        rw [if_pos rfl, if_pos rfl]
        simp [b2i]
      · rw [if_neg (fun q => c1 (nI_inj (by omega) (by omega) q)), mHostOf hK hm hL hH h60 hlv hx0, Option.bind_some]
        dsimp only
        rw [ih (ho at_) n p3 (fun y hy => h2 y (List.mem_cons_of_mem _ hy)) (by omega)]
        have e : decide (b ∈ at_ :: c) = decide (b ∈ c) := by
          have : ¬ b = at_ := fun q => c1 q.symm
          simp [this]
        rw [e]
theorem mLiesIn {a b : Nat} {c : List Nat} (hK : 300 ≤ K) (hb : b < 2 ^ 30) (hb0 : 1 ≤ b) (hm : rM τ R lv hs hh cc cm L g mo) (hL : IL R lv L) (hH : IH lv ho L) (h60 : R ≤ 60) (hlv : ∀ j, lv j = true → 1 ≤ j ∧ j ≤ R) (hc : Chn ho a c) (hcl : ∀ x ∈ c, lv x = true) : fM_liesIn K (nI a) (nI b) τ = some (b2i (decide (b ∈ c)), τ) := by
  have hlen := Chn_len h60 hlv hc hcl
  unfold fM_liesIn
  exact mLies hK hb hb0 hm hL hH h60 hlv c a K hc hcl (by omega)
theorem xChn {p : Int32} {i : Nat} (hi : i ≤ 60) (hx : rX σ R lv hs ho cc cm L g mo) (h60 : R ≤ 60) (hlv : ∀ j, lv j = true → 1 ≤ j ∧ j ≤ R) (h00 : ho 0 = 0) : ∀ (m at_ st n : Nat) (c : List Nat), Chn ho at_ c → (∀ x ∈ c, lv x = true) → st + m = i → m < n → gX_chain_30 K n p (nI i) (nI at_) (nI st) σ = some (nI (c.getD m 0), σ) := by
  have hh := hx.2.2.2.1
  intro m
  induction m with
  | zero =>
    intro at_ st n c h1 h2 h3 h4
    cases n with
    | zero => omega
    | succ n =>
      rw [gX_chain_30, if_pos (nI_le (by omega) (by omega))]
      cases c with
      | nil => have e : at_ = 0 := h1; subst e; rfl
      | cons x c => obtain ⟨rfl, -⟩ := h1; rfl
  | succ m ih =>
    intro at_ st n c h1 h2 h3 h4
    cases n with
    | zero => omega
    | succ n =>
      rw [gX_chain_30, if_neg (nI_ge (by omega) (by omega)), nI_1]
      cases c with
      | nil =>
        have e : at_ = 0 := h1
        subst e
        rw [if_neg (inN (by omega) (by omega)), nI_clamp (by omega), hh]
        dsimp only
        rw [h00, ih 0 (st + 1) n [] rfl (fun x hx => by simp at hx) (by omega) (by omega)]
        rfl
      | cons x c =>
        obtain ⟨rfl, p2, p3⟩ := h1
        have hx1 := hlv at_ (h2 at_ List.mem_cons_self)
        rw [if_neg (inN (by omega) (by omega)), nI_clamp (by omega), hh]
        dsimp only
        rw [ih (ho at_) (st + 1) n c p3 (fun y hy => h2 y (List.mem_cons_of_mem _ hy)) (by omega) (by omega)]
        rfl
theorem mChn {p : Int32} {i : Nat} (hi : i < 2 ^ 31) (hK : 300 ≤ K) (hm : rM τ R lv hs hh cc cm L g mo) (hL : IL R lv L) (hH : IH lv ho L) (h60 : R ≤ 60) (hlv : ∀ j, lv j = true → 1 ≤ j ∧ j ≤ R) : ∀ (c : List Nat) (at_ st n : Nat), Chn ho at_ c → (∀ x ∈ c, lv x = true) → st ≤ i → c.length < n → gM_chain_28 K n p (nI i) (nI at_) (nI st) τ = some (nI (c.getD (i - st) 0), τ) := by
  intro c
  induction c with
  | nil =>
    intro at_ st n h1 h2 h3 h4
    cases n with
    | zero => simp at h4
    | succ n =>
      have e : at_ = 0 := h1
      subst e
      rw [gM_chain_28, if_pos (show nI 0 = 0 from rfl)]
      simp
  | cons x c ih =>
    intro at_ st n h1 h2 h3 h4
    cases n with
    | zero => simp at h4
    | succ n =>
      obtain ⟨rfl, p2, p3⟩ := h1
      simp only [List.length_cons] at h4
      have hx0 := h2 at_ List.mem_cons_self
      have hx1 := hlv at_ hx0
      rw [gM_chain_28]
      by_cases c1 : i ≤ st
      · rw [if_pos (nI_le c1 (by omega)), show i - st = 0 by omega]
        rfl
      · rw [if_neg (nI_ge (by omega) (by omega)), if_neg (nI_ne0 (by omega) (by omega)), mHostOf hK hm hL hH h60 hlv hx0, Option.bind_some]
        dsimp only
        rw [nI_1, ih (ho at_) (st + 1) n p3 (fun y hy => h2 y (List.mem_cons_of_mem _ hy)) (by omega) (by omega), show i - st = (i - (st + 1)) + 1 by omega]
        rfl
theorem sim_chain (hK : 300 ≤ K) (hR : Rel σ τ) (p i : Int32) : Sim (fX_chain K p i σ) (fM_chain K p i τ) := by
  obtain ⟨R, lv, hs, ho, hh, cc, cm, L, g, mo, hx, hm, hL, hH, hN⟩ := hR
  have hm' := rM_thrown hm 0
  have hr : Rel σ (m_pthrown τ 0) := ⟨R, lv, hs, ho, hh, cc, cm, L, g, mo, hx, hm', hL, hH, hN⟩
  have h60 := hN.1
  have hlv := hN.2.1
  unfold fX_chain fM_chain
  rw [xLive hx hN.1, mLive hm' hN.1, Option.bind_some, Option.bind_some]
  dsimp only
  by_cases c : liveI R lv p = true
  · obtain ⟨r, r1, r2, rfl, hl⟩ := liveI_t hN.1 c
    rw [c, if_neg bT, if_neg bT]
    by_cases c0 : i < 0
    · rw [if_pos c0, if_neg (Int32.not_le.mpr c0)]
      exact ⟨_, _, _, rfl, rfl, hr⟩
    · rw [if_neg c0, if_pos (Int32.not_lt.mp c0), mHostOf hK hm' hL hH h60 hlv hl, Option.bind_some]
      dsimp only
      obtain ⟨j, hj, rfl⟩ := nI_of c0
      obtain ⟨ch, hch, hcl⟩ := hH.2.2 r hl
      cases ch with
      | nil => have : r = 0 := hch; omega
      | cons x ch =>
        have hlen := Chn_len h60 hlv hch hcl
        obtain ⟨rfl, p2, p3⟩ := hch
        simp only [List.length_cons] at hlen
        have hcl' : ∀ y ∈ ch, lv y = true := fun y hy => hcl y (List.mem_cons_of_mem _ hy)
        have em := mChn (τ := m_pthrown τ 0) (p := nI r) (i := j) hj hK hm' hL hH h60 hlv ch (ho r) 0 K p3 hcl' (by omega) (by omega)
        rw [show gM_chain_28 K K (nI r) (nI j) (nI (ho r)) 0 (m_pthrown τ 0) = some (nI (ch.getD j 0), m_pthrown τ 0) from em]
        by_cases c1 : j < 60
        · rw [if_pos (show nI j < 60 from nI_lt (a := j) (b := 60) c1 (by omega)), if_neg (inN (by omega) (by omega)), nI_clamp (by omega), hx.2.2.2.1]
          dsimp only
          exact ⟨_, _, _, xChn (i := j) (by omega) hx h60 hlv hN.2.2.2.1 j (ho r) 0 K ch p3 hcl' (by omega) (by omega), rfl, hr⟩
        · rw [if_neg (show ¬ nI j < 60 from nI_nlt (a := j) (b := 60) (by omega) (by omega))]
          have e : ch.getD j 0 = 0 := by
            rw [List.getD_eq_getElem?_getD, List.getElem?_eq_none (by omega)]
            rfl
          rw [e]
          exact ⟨_, _, _, rfl, rfl, hr⟩
  · have c : liveI R lv p = false := by simpa using c
    rw [c, if_pos bF, if_pos bF]
    exact ⟨_, _, _, rfl, rfl, hr⟩
/-- k lies in r, or is it -/
noncomputable def inC (lv : Nat → Bool) (ho : Nat → Nat) (r k : Nat) : Bool := lv k && @decide (∃ c, Chn ho k c ∧ r ∈ c) (Classical.propDecidable _)
theorem inC_c {r k : Nat} {c : List Nat} (hk : lv k = true) (hc : Chn ho k c) : inC lv ho r k = decide (r ∈ c) := by
  unfold inC
  rw [hk, Bool.true_and]
  by_cases h : r ∈ c
  · rw [decide_eq_true h]
    exact @decide_eq_true _ (Classical.propDecidable _) ⟨c, hc, h⟩
  · rw [decide_eq_false h]
    refine @decide_eq_false _ (Classical.propDecidable _) ?_
    rintro ⟨d, hd, q⟩
    rw [Chn_uniq hd hc] at q
    exact h q
def mvS (P : Nat → Bool) (w : Int32) : Nat → Nat → Int32 → (Nat → Int32) → Int32 × (Nat → Int32)
  | 0, _, c, h => (c, h)
  | m + 1, k, c, h => if P k = true then (if h k = w then mvS P w m (k + 1) c h else mvS P w m (k + 1) (c + 1) (upd h k w)) else mvS P w m (k + 1) c h
theorem upd_id {f : Nat → Int32} {k : Nat} {v : Int32} (h : f k = v) : upd f k v = f := by
  funext j
  by_cases c : j = k
  · subst c; simp [upd, h]
  · simp [upd, c]
theorem xMove {r : Nat} {w : Int32} (hK : 300 ≤ K) (hrl : lv r = true) (hH : IH lv ho L) (h60 : R ≤ 60) (hlv : ∀ j, lv j = true → 1 ≤ j ∧ j ≤ R) : ∀ (m k n : Nat) (c : Int32) (σ : XSt) (hs : Nat → Int32), rX σ R lv hs ho cc cm L g mo → 1 ≤ k → k + m = R + 1 → m < n → ∃ σ', gX_move_35 K n (nI r) w c (nI k) σ = some ((mvS (inC lv ho r) w m k c hs).1, σ') ∧ rX σ' R lv (mvS (inC lv ho r) w m k c hs).2 ho cc cm L g mo := by
  intro m
  induction m with
  | zero =>
    intro k n c σ hs hx h1 h2 h3
    cases n with
    | zero => omega
    | succ n =>
      refine ⟨σ, ?_, hx⟩
      rw [gX_move_35, hx.1, if_pos (nI_lt (by omega) (by omega))]
      rfl
  | succ m ih =>
    intro k n c σ hs hx h1 h2 h3
    cases n with
    | zero => omega
    | succ n =>
      have hr1 := hlv r hrl
      have hin := inN (r := k) (N := 61) (by omega) (by omega)
      have hcl : (nI k).toNatClampNeg = k := nI_clamp (by omega)
      have hh := hx.2.2.1
      have hv := hx.2.1
      have hup : ∀ v, rX (x_phouses σ (upd hs k v)) R lv (upd hs k v) ho cc cm L g mo := by
        intro v
        obtain ⟨a1, a2, a3, a4, a5, a6, a7, a8, a9⟩ := hx
        exact ⟨a1, a2, rfl, a4, a5, a6, a7, a8, a9⟩
      obtain ⟨σ1, i1, j1⟩ := ih (k + 1) n c σ hs hx (by omega) (by omega) (by omega)
      obtain ⟨σ2, i2, j2⟩ := ih (k + 1) n (c + 1) (x_phouses σ (upd hs k w)) (upd hs k w) (hup w) (by omega) (by omega) (by omega)
      rw [gX_move_35, hx.1, if_neg (nI_nlt (by omega) (by omega))]
      simp only [if_neg hin]
      simp only [hcl, hh, hv, nI_1, mvS]
      have step : inC lv ho r k = true → ∃ σ', (if hs k = w then gX_move_35 K n (nI r) w c (nI (k + 1)) σ else gX_move_35 K n (nI r) w (c + 1) (nI (k + 1)) (x_phouses σ (upd hs k w))) = some ((if inC lv ho r k = true then (if hs k = w then mvS (inC lv ho r) w m (k + 1) c hs else mvS (inC lv ho r) w m (k + 1) (c + 1) (upd hs k w)) else mvS (inC lv ho r) w m (k + 1) c hs).1, σ') ∧ rX σ' R lv (if inC lv ho r k = true then (if hs k = w then mvS (inC lv ho r) w m (k + 1) c hs else mvS (inC lv ho r) w m (k + 1) (c + 1) (upd hs k w)) else mvS (inC lv ho r) w m (k + 1) c hs).2 ho cc cm L g mo := by
        intro hq
        rw [if_pos hq]
        by_cases c2 : hs k = w
        · rw [if_pos c2, if_pos c2]
          exact ⟨σ1, i1, j1⟩
        · rw [if_neg c2, if_neg c2]
          exact ⟨σ2, i2, j2⟩
      by_cases c1 : k = r
      · subst c1
        rw [if_pos rfl]
        obtain ⟨ch, hch, hcl⟩ := hH.2.2 k hrl
        have hq : inC lv ho k k = true := by
          rw [inC_c hrl hch]
          cases ch with
          | nil => have : k = 0 := hch; omega
          | cons x ch => obtain ⟨rfl, -⟩ := hch; simp
        exact step hq
      · rw [if_neg (fun q => c1 (nI_inj (by omega) (by omega) q))]
        cases hb : lv k
        · have hq : ¬ inC lv ho r k = true := by simp [inC, hb]
          rw [if_pos bF, if_neg hq]
          exact ⟨σ1, i1, j1⟩
        · obtain ⟨ch, hch, hcl⟩ := hH.2.2 k hb
          have hq := inC_c (r := r) hb hch
          rw [if_neg bT, xLiesIn hK (by omega) hx h60 hlv hb hch hcl c1, Option.bind_some]
          dsimp only
          simp only [hh]
          by_cases c3 : r ∈ ch
          · rw [decide_eq_true c3, if_neg bT]
            exact step (by rw [hq, decide_eq_true c3])
          · rw [decide_eq_false c3, if_pos bF]
            rw [if_neg (show ¬ inC lv ho r k = true by rw [hq, decide_eq_false c3]; decide)]
            exact ⟨σ1, i1, j1⟩
theorem mMove {r : Nat} {w : Int32} (hK : 300 ≤ K) (hrl : lv r = true) (hL : IL R lv L) (hH : IH lv ho L) (h60 : R ≤ 60) (hlv : ∀ j, lv j = true → 1 ≤ j ∧ j ≤ R) : ∀ (m k n : Nat) (c : Int32) (τ : MSt) (hs : Nat → Int32), rM τ R lv hs hh cc cm L g mo → 1 ≤ k → k + m = R + 1 → m < n → ∃ τ', gM_move_40 K n (nI r) w c (nI k) τ = some ((mvS (inC lv ho r) w m k c hs).1, τ') ∧ rM τ' R lv (mvS (inC lv ho r) w m k c hs).2 hh cc cm L g mo := by
  intro m
  induction m with
  | zero =>
    intro k n c τ hs hx h1 h2 h3
    cases n with
    | zero => omega
    | succ n =>
      refine ⟨τ, ?_, hx⟩
      rw [gM_move_40, hx.1, if_pos (nI_lt (by omega) (by omega))]
      rfl
  | succ m ih =>
    intro k n c τ hs hx h1 h2 h3
    cases n with
    | zero => omega
    | succ n =>
      have hr1 := hlv r hrl
      have hin := inN (r := k) (N := 61) (by omega) (by omega)
      have hcl : (nI k).toNatClampNeg = k := nI_clamp (by omega)
      have hhs := hx.2.2.1
      have hv := hx.2.1
      have hup : ∀ v, rM (m_phouses τ (upd hs k v)) R lv (upd hs k v) hh cc cm L g mo := by
        intro v
        obtain ⟨a1, a2, a3, a4, a5, a6, a7, a8, a9⟩ := hx
        exact ⟨a1, a2, rfl, a4, a5, a6, a7, a8, a9⟩
      obtain ⟨σ1, i1, j1⟩ := ih (k + 1) n c τ hs hx (by omega) (by omega) (by omega)
      obtain ⟨σ2, i2, j2⟩ := ih (k + 1) n (c + 1) (m_phouses τ (upd hs k w)) (upd hs k w) (hup w) (by omega) (by omega) (by omega)
      rw [gM_move_40, hx.1, if_neg (nI_nlt (by omega) (by omega))]
      simp only [if_neg hin]
      simp only [hcl, hv, nI_1, mvS]
      cases hb : lv k
      · have hq : ¬ inC lv ho r k = true := by simp [inC, hb]
        rw [if_pos bF, if_neg hq]
        exact ⟨σ1, i1, j1⟩
      · obtain ⟨ch, hch, hcl⟩ := hH.2.2 k hb
        have hq := inC_c (r := r) hb hch
        rw [if_neg bT, mLiesIn hK (by omega) (by omega) hx hL hH h60 hlv hch hcl, Option.bind_some]
        dsimp only
        simp only [hhs]
        by_cases c3 : r ∈ ch
        · rw [decide_eq_true c3, if_neg bT, if_pos (show inC lv ho r k = true by rw [hq, decide_eq_true c3])]
          by_cases c2 : hs k = w
          · rw [if_pos c2, if_pos c2]
            obtain ⟨σ3, i3, j3⟩ := ih (k + 1) n c (m_phouses τ (upd hs k w)) (upd hs k w) (hup w) (by omega) (by omega) (by omega)
            rw [upd_id c2] at i3 j3 ⊢
            rw [Int32.add_zero]
            exact ⟨σ3, i3, j3⟩
          · rw [if_neg c2, if_neg c2]
            exact ⟨σ2, i2, j2⟩
        · rw [decide_eq_false c3, if_pos bF, if_neg (show ¬ inC lv ho r k = true by rw [hq, decide_eq_false c3]; decide)]
          exact ⟨σ1, i1, j1⟩
theorem sim_move (hK : 300 ≤ K) (hR : Rel σ τ) (p w : Int32) : Sim (fX_move K p w σ) (fM_move K p w τ) := by
  obtain ⟨R, lv, hs, ho, hh, cc, cm, L, g, mo, hx, hm, hL, hH, hN⟩ := hR
  have h60 := hN.1
  have hlv := hN.2.1
  unfold fX_move fM_move
  rw [hx.2.2.2.2.2.2.2.2, hm.2.2.2.2.2.2.2.2]
  have hx' := rX_mom hx (mo + 1)
  have hm' := rM_mom hm 0 (mo + 1)
  generalize x_pmoment σ (mo + 1) = σ at hx' ⊢
  generalize m_pmoment (m_pthrown τ 0) (mo + 1) = τ at hm' ⊢
  have hr : Rel σ τ := ⟨R, lv, hs, ho, hh, cc, cm, L, g, mo + 1, hx', hm', hL, hH, hN⟩
  rw [xLive hx' hN.1, mLive hm' hN.1, Option.bind_some, Option.bind_some]
  dsimp only
  by_cases c : liveI R lv p = true
  · obtain ⟨r, r1, r2, rfl, hl⟩ := liveI_t hN.1 c
    rw [c, if_neg bT, if_neg bT]
    by_cases c0 : w < 0
    · rw [if_pos c0, if_pos c0]
      exact ⟨_, _, _, rfl, rfl, hr⟩
    · rw [if_neg c0, if_neg c0]
      by_cases c1 : w ≤ 9
      · rw [if_pos c1, if_pos c1]
        obtain ⟨σ', a1, a2⟩ := xMove (w := w) hK hl hH h60 hlv R 1 K 0 σ hs hx' (by omega) (by omega) (by omega)
        obtain ⟨τ', b1, b2⟩ := mMove (w := w) hK hl hL hH h60 hlv R 1 K 0 τ hs hm' (by omega) (by omega) (by omega)
        exact ⟨_, _, _, a1, b1, R, lv, _, ho, hh, cc, cm, L, g, mo + 1, a2, b2, hL, hH, hN⟩
      · rw [if_neg c1, if_neg c1]
        exact ⟨_, _, _, rfl, rfl, hr⟩
  · have c : liveI R lv p = false := by simpa using c
    rw [c, if_pos bF, if_pos bF]
    exact ⟨_, _, _, rfl, rfl, hr⟩
end CH
