/-! link -/
section LI
variable {σ : XSt} {τ : MSt} {R : Nat} {lv : Nat → Bool} {hs : Nat → Int32} {ho hh cc : Nat → Nat} {cm : Nat → Int32} {L : List Lk} {g : List Nat} {mo : Int32} {K : Nat}
def tgtI (R : Nat) (lv : Nat → Bool) (p q r : Int32) : Bool := if q < 4 then (liveI R lv r && !decide (r = p)) else headI r
theorem xMay (hx : rX σ R lv hs ho cc cm L g mo) (h60 : R ≤ 60) (p q r : Int32) : fX_mayGoTo K p q r σ = some (b2i (tgtI R lv p q r), σ) := by
  unfold fX_mayGoTo tgtI
  by_cases c : q < 4
  · rw [if_pos c, if_pos c, xLive hx h60, Option.bind_some]
    dsimp only
    cases hb : liveI R lv r
    · rw [if_pos bF, Bool.false_and]; rfl
    · rw [if_neg bT, Bool.true_and]
      by_cases c2 : r = p
      · rw [if_pos c2, decide_eq_true c2]; rfl
      · rw [if_neg c2, decide_eq_false c2]; rfl
  · rw [if_neg c, if_neg c, xHead, Option.bind_some]
    dsimp only
    rw [if_neg (fun q => q (b2i_01 _))]
/-- there is room -/
def roomP (L : List Lk) (f d t : Nat) : Prop := ¬ (f, d, t) ∈ L ∧ cntF L f d < mostN d ∧ L.length < 200
theorem xHas {f d t : Nat} {w : Int32} (hK : 300 ≤ K) (hx : rX σ R lv hs ho cc cm L g mo) (hL : IL R lv L) (h60 : R ≤ 60) (hlv : ∀ j, lv j = true → 1 ≤ j ∧ j ≤ R) (hf : lv f = true) (hd : d ≤ 9) (ht : t ≤ 99) (hdec : Decidable (roomP (erS w 0 L) f d t)) : fX_hasRoomFor K (nI f) (nI d) (nI t) w σ = some (b2i (tgtI R lv (nI f) (nI d) (nI t) && @decide (roomP (erS w 0 L) f d t) hdec), σ) := by
  have hf1 := hlv f hf
  have hl : L.length ≤ 200 := hL.2.2.1
  have hb := hL.b h60 hlv
  unfold fX_hasRoomFor
  rw [xLive hx h60, Option.bind_some, liveI_r hf1.1 hf1.2 h60, hf]
  dsimp only
  rw [if_neg bT, if_neg (nI_pos (by omega)), if_neg (show ¬ (9 : Int32) < nI d from nI_nlt (a := 9) (b := d) hd (by omega) |> fun _ => fun q => absurd ((nI_ltI (a := 9) (b := d) (by omega) (by omega)).mp q) (by omega)), xMay hx h60, Option.bind_some]
  dsimp only
  cases hb2 : tgtI R lv (nI f) (nI d) (nI t)
  · rw [if_pos bF, Bool.false_and]; rfl
  · rw [if_neg bT, Bool.true_and]
    have h := xRoom (σ := σ) (K := K) (w := w) (f := f) (d := d) (t := t) (by omega) hd ht hx hb hl L 0 K 0 0 rfl (by omega) (by omega) (by omega) (by omega)
    refine (show gX_hasRoomFor_39 K K (nI f) (nI d) (nI t) w 0 0 0 σ = _ from h).trans ?_
    have e : (¬ (f, d, t) ∈ erS w 0 L ∧ 0 + cntF (erS w 0 L) f d < mostN d ∧ 0 + (erS w 0 L).length < 200) ↔ roomP (erS w 0 L) f d t := by
      unfold roomP
      rw [Nat.zero_add, Nat.zero_add]
    rw [decide_eq_decide.mpr e]
theorem xAdd {f d t : Nat} (hf : f ≤ 60) (hd : d ≤ 9) (hl : L.length < 200) (hx : rX σ R lv hs ho cc cm L g mo) : ∃ σ', fX_addLink K (nI f) (nI d) (nI t) σ = some (0, σ') ∧ rX σ' R lv hs (if d = 0 then up ho f t else ho) cc cm (L ++ [(f, d, t)]) g mo := by
  obtain ⟨a1, a2, a3, a4, a5, a6, a7, a8, a9⟩ := hx
  unfold fX_addLink
  rw [a7.1]
  have hin := inN (r := L.length) (N := 200) (by omega) (by omega)
  simp only [if_neg hin]
  rw [nI_clamp (n := L.length) (by omega), nI_1]
  have hA := LR_app (f := f) (d := d) (t := t) a7
  by_cases c : d = 0
  · rw [if_pos (show nI d = 0 by rw [c]; rfl), if_neg (inN (by omega) (by omega)), nI_clamp (n := f) (by omega), if_pos c, a4, upd_nI]
    exact ⟨_, rfl, a1, a2, a3, rfl, a5, a6, hA, a8, a9⟩
  · rw [if_neg (nI_ne0 (by omega) (by omega)), if_neg c]
    exact ⟨_, rfl, a1, a2, a3, a4, a5, a6, hA, a8, a9⟩
def mAdd (K : Nat) (p1 p2 p3 : Int32) (s : MSt) : Option (Int32 × MSt) := (if (m_links s) < 0 ∨ 200 ≤ (m_links s).toNatClampNeg then none else (if (m_links s) < 0 ∨ 200 ≤ (m_links s).toNatClampNeg then none else (if (m_links s) < 0 ∨ 200 ≤ (m_links s).toNatClampNeg then none else ((fM_changed K p1 (m_pto (m_pfield (m_pfrom (m_plinks s ((m_links s) + (1 : Int32))) (upd (m_from s) (m_links s).toNatClampNeg p1)) (upd (m_field s) (m_links s).toNatClampNeg p2)) (upd (m_to s) (m_links s).toNatClampNeg p3))).bind fun q_24 => some ((1 : Int32), q_24.2)))))
def mTail (K : Nat) (p1 p2 p3 : Int32) (s : MSt) : Option (Int32 × MSt) := ((fM_count K p1 p2 s).bind fun q_9 => ((fM_most K p2 q_9.2).bind fun q_10 => (if q_9.1 = q_10.1 then some ((0 : Int32), q_10.2) else ((fM_find K p1 p2 p3 q_10.2).bind fun q_12 => (if q_12.1 = (-1 : Int32) then (if p2 = 0 then ((fM_liesIn K p3 p1 q_12.2).bind fun q_19 => (if q_19.1 = 0 then mAdd K p1 p2 p3 q_19.2 else (gM_link_122 K K p1 p2 p3 p3 (m_pringLength q_19.2 (0 : Int32))))) else mAdd K p1 p2 p3 q_12.2) else some ((0 : Int32), q_12.2))))))
theorem fM_link_eq (K : Nat) (p1 p2 p3 : Int32) (σ : MSt) : fM_link K p1 p2 p3 σ = ((fM_isLive K p1 (m_pmoment (m_pthrown σ (0 : Int32)) ((m_moment σ) + (1 : Int32)))).bind fun q_1 => (if q_1.1 = 0 then some ((0 : Int32), q_1.2) else (if p2 < 0 then some ((0 : Int32), q_1.2) else (if (9 : Int32) < p2 then some ((0 : Int32), q_1.2) else (if (m_links q_1.2) = (200 : Int32) then some ((0 : Int32), q_1.2) else (if (4 : Int32) ≤ p2 then ((fM_isHeading K p3 q_1.2).bind fun q_7 => (if q_7.1 = 0 then some ((0 : Int32), q_7.2) else mTail K p1 p2 p3 q_7.2)) else ((fM_isLive K p3 q_1.2).bind fun q_29 => (if q_29.1 = 0 then some ((0 : Int32), q_29.2) else (if p3 = p1 then some ((0 : Int32), q_29.2) else mTail K p1 p2 p3 q_29.2))))))))) := rfl
theorem mAdd_ok {f d t : Nat} (hf : f ≤ 60) (hc : cc f ≤ 40) (hl : L.length < 200) (hm : rM τ R lv hs hh cc cm L g mo) : ∃ τ', mAdd K (nI f) (nI d) (nI t) τ = some (1, τ') ∧ rM τ' R lv hs hh (ntC mo cc cm f) (ntM mo cc cm f) (L ++ [(f, d, t)]) g mo := by
  obtain ⟨a1, a2, a3, a4, a5, a6, a7, a8, a9⟩ := hm
  unfold mAdd
  have hin := inN (r := L.length) (N := 200) (by omega) (by omega)
  rw [a7.1]
  simp only [if_neg hin]
  rw [nI_clamp (n := L.length) (by omega), nI_1]
  have hA := LR_app (f := f) (d := d) (t := t) a7
  obtain ⟨τ', q1, q2⟩ := mNote (K := K) (L := L ++ [(f, d, t)]) hf hc (τ := m_pto (m_pfield (m_pfrom (m_plinks τ (nI (L.length + 1))) (upd (m_from τ) L.length (nI f))) (upd (m_field τ) L.length (nI d))) (upd (m_to τ) L.length (nI t))) ⟨a1, a2, a3, a4, a5, a6, hA, a8, a9⟩
  rw [q1]
  exact ⟨τ', rfl, q2⟩
theorem mMost {d : Nat} (hd : d ≤ 9) : fM_most K (nI d) τ = some (nI (mostN d), τ) := by
  unfold fM_most
  rcases d with _ | _ | _ | _ | d
  · rw [if_pos (by decide)]; rfl
  · rw [if_neg (by decide), if_pos (by decide)]; rfl
  · rw [if_neg (by decide), if_neg (by decide), if_neg (by decide)]; rfl
  · rw [if_neg (by decide), if_neg (by decide), if_neg (by decide)]; rfl
  · have h4 : (4 : Int32) ≤ nI (d + 4) := nI_le (a := 4) (by omega) (by omega)
    rw [if_neg (nI_ne0 (by omega) (by omega)), if_neg (fun q => by have := nI_inj (b := 1) (by omega) (by omega) q; omega), if_pos h4]
    rfl
theorem RG_app {w : Nat → Int32} {n : Int32} {v : Nat} (h : RG w n g) : RG (upd w g.length (nI v)) (nI (g.length + 1)) (g ++ [v]) := by
  refine ⟨by simp, fun k x hk => ?_⟩
  by_cases c : k < g.length
  · rw [List.getElem?_append_left c] at hk
    rw [pk_un (by omega)]
    exact h.2 k x hk
  · rw [List.getElem?_append_right (by omega)] at hk
    have hz : k - g.length < 1 := (List.getElem?_eq_some_iff.mp hk).1
    have hk0 : k = g.length := by omega
    subst hk0
    rw [Nat.sub_self] at hk
    cases hk
    exact pk_us
theorem xRing {p : Int32} {f : Nat} {b : List Nat} (hf : f ≤ 60) (hf1 : 1 ≤ f) : ∀ (a : List Nat) (at_ n : Nat) (g : List Nat) (σ : XSt), rX σ R lv hs ho cc cm L g mo → Chn ho at_ (a ++ f :: b) → ¬ f ∈ a → (∀ x ∈ a, x ≤ 60) → g.length + a.length + 1 ≤ 60 → a.length + 1 < n → ∃ σ', gX_keepRefusedWay_7 K n p (nI f) (nI at_) σ = some (0, σ') ∧ rX σ' R lv hs ho cc cm L (g ++ (a ++ [f])) mo := by
  intro a
  induction a with
  | nil =>
    intro at_ n g σ hx hc h1 h2 h3 h4
    obtain ⟨n, rfl⟩ : ∃ k, n = k + 2 := ⟨n - 2, by simp at h4; omega⟩
    obtain ⟨a1, a2, a3, a4, a5, a6, a7, a8, a9⟩ := hx
    obtain ⟨q1, q2, q3⟩ := hc
    subst q1
    simp only [List.length_nil, Nat.add_zero] at h3
    have n60 : ¬ (60 : Int32) ≤ nI g.length := nI_ge (b := 60) (by omega) (by omega)
    rw [gX_keepRefusedWay_7, a8.1, if_neg n60, if_neg (nI_ne0 (by omega) (by omega)), if_neg (inN (by omega) (by omega)), if_pos rfl, nI_clamp (n := g.length) (by omega), nI_1, gX_keepRefusedWay_7, if_pos rfl]
    have hg := RG_app (v := at_) a8
    by_cases c : (60 : Int32) ≤ x_refusedWayLength (x_prefusedWayLength (x_prefusedWay σ (upd (x_refusedWay σ) g.length (nI at_))) (nI (g.length + 1)))
    · rw [if_pos c]
      exact ⟨_, rfl, a1, a2, a3, a4, a5, a6, a7, hg, a9⟩
    · rw [if_neg c]
      exact ⟨_, rfl, a1, a2, a3, a4, a5, a6, a7, hg, a9⟩
  | cons x a ih =>
    intro at_ n g σ hx hc h1 h2 h3 h4
    cases n with
    | zero => omega
    | succ n =>
      obtain ⟨a1, a2, a3, a4, a5, a6, a7, a8, a9⟩ := hx
      obtain ⟨q1, q2, q3⟩ := hc
      subst q1
      simp only [List.length_cons] at h3 h4
      have hx60 := h2 at_ List.mem_cons_self
      have n60 : ¬ (60 : Int32) ≤ nI g.length := nI_ge (b := 60) (by omega) (by omega)
      have hne : ¬ nI at_ = nI f := fun q => h1 (by rw [← nI_inj (by omega) (by omega) q]; exact List.mem_cons_self)
      rw [gX_keepRefusedWay_7, a8.1, if_neg n60, if_neg (nI_ne0 (by omega) (by omega)), if_neg (inN (by omega) (by omega)), if_neg hne, if_neg (inN (by omega) (by omega)), nI_clamp (n := g.length) (by omega), nI_clamp (n := at_) (by omega), nI_1, a4]
      have hg := RG_app (v := at_) a8
      have := ih (ho at_) n (g ++ [at_]) (x_prefusedWayLength (x_prefusedWay σ (upd (x_refusedWay σ) g.length (nI at_))) (nI (g.length + 1))) ⟨a1, a2, a3, a4, a5, a6, a7, hg, a9⟩ q3 (fun q => h1 (List.mem_cons_of_mem _ q)) (fun y hy => h2 y (List.mem_cons_of_mem _ hy)) (by rw [List.length_append, List.length_singleton]; omega) (by omega)
      obtain ⟨σ', w1, w2⟩ := this
      refine ⟨σ', w1, ?_⟩
      rw [List.append_assoc] at w2
      exact w2
theorem mRing {p2 p3 : Int32} {f : Nat} {b : List Nat} (hK : 300 ≤ K) (hf : f ≤ 60) (hf1 : 1 ≤ f) (hL : IL R lv L) (hH : IH lv ho L) (h60 : R ≤ 60) (hlv : ∀ j, lv j = true → 1 ≤ j ∧ j ≤ R) : ∀ (a : List Nat) (at_ n : Nat) (g : List Nat) (τ : MSt), rM τ R lv hs hh cc cm L g mo → Chn ho at_ (a ++ f :: b) → ¬ f ∈ a → (∀ x ∈ a, lv x = true) → g.length + a.length + 1 ≤ 60 → a.length < n → ∃ τ', gM_link_122 K n (nI f) p2 p3 (nI at_) τ = some (0, τ') ∧ rM τ' R lv hs hh cc cm L (g ++ (a ++ [f])) mo := by
  intro a
  induction a with
  | nil =>
    intro at_ n g τ hx hc h1 h2 h3 h4
    cases n with
    | zero => omega
    | succ n =>
      obtain ⟨a1, a2, a3, a4, a5, a6, a7, a8, a9⟩ := hx
      obtain ⟨q1, q2, q3⟩ := hc
      subst q1
      simp only [List.length_nil, Nat.add_zero] at h3
      rw [gM_link_122, if_pos rfl, a8.1, if_neg (inN (by omega) (by omega)), nI_clamp (n := g.length) (by omega), nI_1]
      exact ⟨_, rfl, a1, a2, a3, a4, a5, a6, a7, RG_app (v := at_) a8, a9⟩
  | cons x a ih =>
    intro at_ n g τ hx hc h1 h2 h3 h4
    cases n with
    | zero => omega
    | succ n =>
      obtain ⟨a1, a2, a3, a4, a5, a6, a7, a8, a9⟩ := hx
      obtain ⟨q1, q2, q3⟩ := hc
      subst q1
      simp only [List.length_cons] at h3 h4
      have hxl := h2 at_ List.mem_cons_self
      have hx60 := hlv at_ hxl
      have hne : ¬ nI at_ = nI f := fun q => h1 (by rw [← nI_inj (by omega) (by omega) q]; exact List.mem_cons_self)
      have hm' : rM (m_pringLength (m_pring τ (upd (m_ring τ) g.length (nI at_))) (nI (g.length + 1))) R lv hs hh cc cm L (g ++ [at_]) mo := ⟨a1, a2, a3, a4, a5, a6, a7, RG_app (v := at_) a8, a9⟩
      rw [gM_link_122, if_neg hne, a8.1, if_neg (inN (by omega) (by omega)), nI_clamp (n := g.length) (by omega), nI_1, mHostOf hK hm' hL hH h60 hlv hxl, Option.bind_some]
      obtain ⟨τ', w1, w2⟩ := ih (ho at_) n (g ++ [at_]) _ hm' q3 (fun q => h1 (List.mem_cons_of_mem _ q)) (fun y hy => h2 y (List.mem_cons_of_mem _ hy)) (by rw [List.length_append, List.length_singleton]; omega) (by omega)
      refine ⟨τ', w1, ?_⟩
      rw [List.append_assoc] at w2
      exact w2
theorem Chn_cong {ho ho' : Nat → Nat} : ∀ {c : List Nat} {r : Nat}, Chn ho r c → (∀ x ∈ c, ho' x = ho x) → Chn ho' r c := by
  intro c
  induction c with
  | nil => intro r h _; exact h
  | cons x c ih =>
    intro r h hq
    obtain ⟨h1, h2, h3⟩ := h
    refine ⟨h1, h2, ?_⟩
    rw [hq x List.mem_cons_self]
    exact ih h3 (fun y hy => hq y (List.mem_cons_of_mem _ hy))
theorem Chn_ext {ho ho' : Nat → Nat} {f : Nat} {b d : List Nat} : ∀ {a : List Nat} {r : Nat}, Chn ho r (a ++ f :: b) → (∀ x ∈ a, ho' x = ho x) → Chn ho' (ho' f) d → Chn ho' r (a ++ f :: d) := by
  intro a
  induction a with
  | nil => intro r h _ hd; exact ⟨h.1, h.2.1, hd⟩
  | cons x a ih =>
    intro r h hq hd
    obtain ⟨h1, h2, h3⟩ := h
    refine ⟨h1, h2, ?_⟩
    rw [hq x List.mem_cons_self]
    exact ih h3 (fun y hy => hq y (List.mem_cons_of_mem _ hy)) hd
theorem split_first {f : Nat} : ∀ {c : List Nat}, f ∈ c → ∃ a b, c = a ++ f :: b ∧ ¬ f ∈ a := by
  intro c
  induction c with
  | nil => intro h; simp at h
  | cons x c ih =>
    intro h
    by_cases q : f = x
    · subst q; exact ⟨[], c, rfl, by simp⟩
    · have hc : f ∈ c := by
        rcases List.mem_cons.mp h with h | h
        · exact absurd h q
        · exact h
      obtain ⟨a, b, e1, e2⟩ := ih hc
      refine ⟨x :: a, b, by rw [e1]; rfl, fun h2 => ?_⟩
      rcases List.mem_cons.mp h2 with h2 | h2
      · exact q h2
      · exact e2 h2
theorem cnt_mem {f d t : Nat} (h : (f, d, t) ∈ L) : 0 < cntF L f d := by
  unfold cntF
  exact List.countP_pos_iff.mpr ⟨_, h, by simp⟩
theorem cntF_app (L : List Lk) (e : Lk) (f d : Nat) : cntF (L ++ [e]) f d = cntF L f d + (if e.1 = f ∧ e.2.1 = d then 1 else 0) := by
  unfold cntF
  rw [List.countP_append]
  congr 1
  by_cases c1 : e.1 = f <;> by_cases c2 : e.2.1 = d <;> simp [c1, c2]
/-- the links with one more keep what is kept -/
theorem IL_app {f d t : Nat} (hL : IL R lv L) (hf : lv f = true) (hd : d ≤ 9) (ht : d < 4 → 1 ≤ t ∧ t ≤ R) (ht2 : 4 ≤ d → 1 ≤ t ∧ t ≤ 99) (hr : roomP L f d t) : IL R lv (L ++ [(f, d, t)]) := by
  obtain ⟨r1, r2, r3⟩ := hr
  refine ⟨fun e he => ?_, ?_, by rw [List.length_append, List.length_singleton]; omega, fun f' d' => ?_⟩
  · rcases List.mem_append.mp he with h | h
    · exact hL.1 e h
    · rw [List.mem_singleton.mp h]
      exact ⟨hf, hd, ht, ht2⟩
  · refine List.nodup_append.mpr ⟨hL.2.1, by simp, fun a ha b hb => ?_⟩
    rw [List.mem_singleton.mp hb]
    intro q
    exact r1 (q ▸ ha)
  · rw [cntF_app]
    have h1 := hL.2.2.2 f' d'
    by_cases c : f = f' ∧ d = d'
    · obtain ⟨rfl, rfl⟩ := c
      rw [if_pos ⟨rfl, rfl⟩]
      omega
    · rw [if_neg c]
      omega
theorem IH_app0 {f t : Nat} {ct : List Nat} (hL : IL R lv L) (hH : IH lv ho L) (hlv : ∀ j, lv j = true → 1 ≤ j ∧ j ≤ R) (hf : lv f = true) (hr : roomP L f 0 t) (hct : Chn ho t ct) (hcl : ∀ x ∈ ct, lv x = true) (hft : ¬ f ∈ ct) : IH lv (up ho f t) (L ++ [(f, 0, t)]) := by
  have hno : ∀ x, ¬ (f, 0, x) ∈ L := by
    intro x hx
    have := cnt_mem hx
    have := hr.2.1
    simp [mostN] at this
    omega
  have h0 : ho f = 0 := by
    by_cases c : ho f = 0
    · exact c
    · exact absurd (hH.2.1 f hf c) (hno _)
  refine ⟨fun r x hx => ?_, fun r hr h => ?_, fun r hr => ?_⟩
  · rcases List.mem_append.mp hx with h | h
    · have : r ≠ f := fun q => hno x (q ▸ h)
      rw [up_n this]
      exact hH.1 r x h
    · have e := List.mem_singleton.mp h
      cases e
      exact up_s
  · by_cases c : r = f
    · subst c
      rw [up_s]
      exact List.mem_append_right _ List.mem_cons_self
    · rw [up_n c] at h ⊢
      exact List.mem_append_left _ (hH.2.1 r hr h)
  · obtain ⟨c, q1, q2⟩ := hH.2.2 r hr
    have hct' : Chn (up ho f t) (up ho f t f) ct := by
      rw [up_s]
      exact Chn_cong hct (fun x hx => up_n (fun q => hft (q ▸ hx)))
    by_cases hfc : f ∈ c
    · obtain ⟨a, b, rfl, e2⟩ := split_first hfc
      refine ⟨a ++ f :: ct, Chn_ext q1 (fun x hx => up_n (fun q => e2 (q ▸ hx))) hct', fun x hx => ?_⟩
      rcases List.mem_append.mp hx with h | h
      · exact q2 x (List.mem_append_left _ h)
      · rcases List.mem_cons.mp h with h | h
        · rw [h]; exact hf
        · exact hcl x h
    · exact ⟨c, Chn_cong q1 (fun x hx => up_n (fun q => hfc (q ▸ hx))), q2⟩
theorem IH_app {f d t : Nat} (hd : ¬ d = 0) (hH : IH lv ho L) : IH lv ho (L ++ [(f, d, t)]) := by
  refine ⟨fun r x hx => ?_, fun r hr h => List.mem_append_left _ (hH.2.1 r hr h), hH.2.2⟩
  rcases List.mem_append.mp hx with h | h
  · exact hH.1 r x h
  · have e := List.mem_singleton.mp h
    cases e
    exact absurd rfl hd
end LI
