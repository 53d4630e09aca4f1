/-! find, count, room for a link -/
section RO
variable {σ : XSt} {τ : MSt} {R : Nat} {lv : Nat → Bool} {hs : Nat → Int32} {ho hh cc : Nat → Nat} {cm : Nat → Int32} {L : List Lk} {g : List Nat} {mo : Int32} {K : Nat}
theorem cntF_cons (e : Lk) (l : List Lk) (f d : Nat) : cntF (e :: l) f d = cntF l f d + (if e.1 = f ∧ e.2.1 = d then 1 else 0) := by
  unfold cntF
  rw [List.countP_cons]
  by_cases c1 : e.1 = f <;> by_cases c2 : e.2.1 = d <;> simp [c1, c2]
theorem most_eq (d : Nat) : most_f d = nI (mostN d) := by
  rcases d with _ | _ | _ | _ | d <;> rfl
theorem mostN_le (d : Nat) : mostN d ≤ 5 := by
  rcases d with _ | _ | _ | _ | d <;> simp [mostN]
theorem dec_c {α : Type} {p q : Prop} [Decidable p] [Decidable q] {s : α} (h : p ↔ q) : some (b2i (decide p), s) = some (b2i (decide q), s) := by rw [decide_eq_decide.mpr h]
def erS (w : Int32) : Nat → List Lk → List Lk
  | _, [] => []
  | j, e :: l => if nI j = w then erS w (j + 1) l else e :: erS w (j + 1) l
theorem xRoom {f d t : Nat} {w : Int32} (hf : f ≤ 60) (hd : d ≤ 9) (ht : t ≤ 99) (hx : rX σ R lv hs ho cc cm L g mo) (hb : ∀ e ∈ L, e.1 ≤ 60 ∧ e.2.1 ≤ 9 ∧ e.2.2 ≤ 99) (hl : L.length ≤ 200) : ∀ (l : List Lk) (j n a b : Nat), L.drop j = l → j ≤ L.length → l.length < n → a + l.length ≤ 1000 → b + l.length ≤ 1000 → gX_hasRoomFor_39 K n (nI f) (nI d) (nI t) w (nI a) (nI b) (nI j) σ = some (b2i (decide (¬ (f, d, t) ∈ erS w j l ∧ a + cntF (erS w j l) f d < mostN d ∧ b + (erS w j l).length < 200)), σ) := by
  have hL := hx.2.2.2.2.2.2.1
  intro l
  induction l with
  | nil =>
    intro j n a b hdr hj hn ha hb2
    cases n with
    | zero => simp at hn
    | succ n =>
      simp only [List.length_nil, Nat.add_zero] at ha hb2
      rw [gX_hasRoomFor_39, hL.1, if_pos (nI_le (dr_nil hdr) (by omega)), if_neg (inN (by omega) (by omega)), nI_clamp (by omega), most_eq]
      have h5 := mostN_le d
      have q1 : nI (mostN d) ≤ nI a ↔ mostN d ≤ a := nI_leI (by omega) (by omega)
      have q2 : (200 : Int32) ≤ nI b ↔ 200 ≤ b := nI_leI (a := 200) (by omega) (by omega)
      have e0 : (¬ (f, d, t) ∈ erS w j [] ∧ a + cntF (erS w j []) f d < mostN d ∧ b + (erS w j []).length < 200) ↔ (a < mostN d ∧ b < 200) := by
        simp [erS, cntF]
      rw [decide_eq_decide.mpr e0]
      by_cases c1 : mostN d ≤ a
      · rw [if_pos (q1.mpr c1), decide_eq_false (by omega)]
        rfl
      · rw [if_neg (fun q => c1 (q1.mp q))]
        by_cases c2 : 200 ≤ b
        · rw [if_pos (q2.mpr c2), decide_eq_false (by omega)]
          rfl
        · rw [if_neg (fun q => c2 (q2.mp q)), decide_eq_true (by omega)]
          rfl
  | cons e l ih =>
    intro j n a b hdr hj hn ha hb2
    cases n with
    | zero => simp at hn
    | succ n =>
      obtain ⟨h1, h2, h3⟩ := dr_cons hdr
      obtain ⟨e1, e2, e3⟩ := hL.2 j e h2
      obtain ⟨b1, b2, b3⟩ := hb e (List.mem_of_getElem? h2)
      simp only [List.length_cons] at hn ha hb2
      have hin := inN (r := j) (N := 200) (by omega) (by omega)
      have hcl : (nI j).toNatClampNeg = j := nI_clamp (by omega)
      rw [gX_hasRoomFor_39, hL.1, if_neg (nI_ge h1 (by omega))]
      simp only [if_neg hin]
      have q1 : nI e.1 = nI f ↔ e.1 = f := nI_eq (by omega) (by omega)
      have q2 : nI e.2.1 = nI d ↔ e.2.1 = d := nI_eq (by omega) (by omega)
      have q3 : nI e.2.2 = nI t ↔ e.2.2 = t := nI_eq (by omega) (by omega)
      have i1 := fun a b h h' => ih (j + 1) n a b h3 (by omega) (by omega) h h'
      simp only [hcl, e1, e2, e3, nI_1, q1, q2, q3]
      by_cases c0 : nI j = w
      · rw [if_pos c0, i1 a b (by omega) (by omega)]
        have : erS w j (e :: l) = erS w (j + 1) l := by simp [erS, c0]
        rw [this]
      · have he : erS w j (e :: l) = e :: erS w (j + 1) l := by simp [erS, c0]
        rw [if_neg c0, he]
        generalize erS w (j + 1) l = l' at i1 ⊢
        have hc := cntF_cons e l' f d
        by_cases c1 : e.1 = f
        · by_cases c2 : e.2.1 = d
          · by_cases c3 : e.2.2 = t
            · rw [if_pos c1, if_pos c2, if_pos c3, decide_eq_false]
              · rfl
              · rintro ⟨q, -⟩
                obtain ⟨x, y, z⟩ := e
                subst c1; subst c2; subst c3
                exact q List.mem_cons_self
            · rw [if_pos c1, if_pos c2, if_neg c3, i1 (a + 1) (b + 1) (by omega) (by omega)]
              rw [if_pos ⟨c1, c2⟩] at hc
              have hm : (f, d, t) ∈ e :: l' ↔ (f, d, t) ∈ l' := by
                constructor
                · intro q
                  rcases List.mem_cons.mp q with q | q
                  · exact absurd (by rw [← q]) c3
                  · exact q
                · exact List.mem_cons_of_mem _
              exact dec_c (by rw [hm, hc, List.length_cons]; constructor <;> rintro ⟨q1, q2, q3⟩ <;> exact ⟨q1, by omega, by omega⟩)
          · rw [if_pos c1, if_neg c2, i1 a (b + 1) (by omega) (by omega)]
            rw [if_neg (fun q => c2 q.2)] at hc
            have hm : (f, d, t) ∈ e :: l' ↔ (f, d, t) ∈ l' := by
              constructor
              · intro q
                rcases List.mem_cons.mp q with q | q
                · exact absurd (by rw [← q]) c2
                · exact q
              · exact List.mem_cons_of_mem _
            exact dec_c (by rw [hm, hc, List.length_cons]; constructor <;> rintro ⟨q1, q2, q3⟩ <;> exact ⟨q1, by omega, by omega⟩)
        · rw [if_neg c1, i1 a (b + 1) (by omega) (by omega)]
          rw [if_neg (fun q => c1 q.1)] at hc
          have hm : (f, d, t) ∈ e :: l' ↔ (f, d, t) ∈ l' := by
            constructor
            · intro q
              rcases List.mem_cons.mp q with q | q
              · exact absurd (by rw [← q]) c1
              · exact q
            · exact List.mem_cons_of_mem _
          exact dec_c (by rw [hm, hc, List.length_cons]; constructor <;> rintro ⟨q1, q2, q3⟩ <;> exact ⟨q1, by omega, by omega⟩)
theorem erS_m1 : ∀ (l : List Lk) (j : Nat), j + l.length < 2 ^ 31 → erS (-1) j l = l := by
  intro l
  induction l with
  | nil => intro j _; rfl
  | cons e l ih =>
    intro j hj
    simp only [List.length_cons] at hj
    unfold erS
    rw [if_neg (nI_m1 (by omega)), ih (j + 1) (by omega)]
theorem erS_lt : ∀ (l : List Lk) (j k : Nat), k < j → j + l.length < 2 ^ 31 → erS (nI k) j l = l := by
  intro l
  induction l with
  | nil => intro j k _ _; rfl
  | cons e l ih =>
    intro j k h1 h2
    simp only [List.length_cons] at h2
    unfold erS
    rw [if_neg (fun q => by have := nI_inj (by omega) (by omega) q; omega), ih (j + 1) k (by omega) (by omega)]
theorem erS_k : ∀ (l : List Lk) (j k : Nat), j + l.length < 2 ^ 31 → j + k < 2 ^ 31 → erS (nI (j + k)) j l = l.eraseIdx k := by
  intro l
  induction l with
  | nil => intro j k _ _; rfl
  | cons e l ih =>
    intro j k h1 h2
    simp only [List.length_cons] at h1
    unfold erS
    cases k with
    | zero =>
      rw [Nat.add_zero, if_pos rfl, erS_lt l (j + 1) j (by omega) (by omega)]
      rfl
    | succ k =>
      rw [if_neg (fun q => by have := nI_inj (by omega) (by omega) q; omega), show j + (k + 1) = (j + 1) + k by omega, ih (j + 1) k (by omega) (by omega)]
      rfl
theorem mCount {f d : Nat} (hf : f ≤ 60) (hd : d ≤ 9) (hm : rM τ R lv hs hh cc cm L g mo) (hb : ∀ e ∈ L, e.1 ≤ 60 ∧ e.2.1 ≤ 9 ∧ e.2.2 ≤ 99) (hl : L.length ≤ 200) : ∀ (l : List Lk) (j n a : Nat), L.drop j = l → j ≤ L.length → l.length < n → gM_count_5 K n (nI f) (nI d) (nI a) (nI j) τ = some (nI (a + cntF l f d), τ) := by
  have hL := hm.2.2.2.2.2.2.1
  intro l
  induction l with
  | nil =>
    intro j n a hdr hj hn
    cases n with
    | zero => simp at hn
    | succ n =>
      rw [gM_count_5, hL.1, if_pos (nI_le (dr_nil hdr) (by omega))]
      rfl
  | cons e l ih =>
    intro j n a hdr hj hn
    cases n with
    | zero => simp at hn
    | succ n =>
      obtain ⟨h1, h2, h3⟩ := dr_cons hdr
      obtain ⟨e1, e2, e3⟩ := hL.2 j e h2
      obtain ⟨b1, b2, b3⟩ := hb e (List.mem_of_getElem? h2)
      simp only [List.length_cons] at hn
      have hin := inN (r := j) (N := 200) (by omega) (by omega)
      have hcl : (nI j).toNatClampNeg = j := nI_clamp (by omega)
      rw [gM_count_5, hL.1, if_neg (nI_ge h1 (by omega))]
      simp only [if_neg hin]
      have q1 : nI e.1 = nI f ↔ e.1 = f := nI_eq (by omega) (by omega)
      have q2 : nI e.2.1 = nI d ↔ e.2.1 = d := nI_eq (by omega) (by omega)
      have i1 := fun a => ih (j + 1) n a h3 (by omega) (by omega)
      simp only [hcl, e1, e2, nI_1, q1, q2, i1, Int32.add_zero]
      rw [cntF_cons]
      by_cases c1 : e.1 = f
      · by_cases c2 : e.2.1 = d
        · rw [if_pos c1, if_pos c2, if_pos ⟨c1, c2⟩, show a + 1 + cntF l f d = a + (cntF l f d + 1) by omega]
        · rw [if_pos c1, if_neg c2, if_neg (fun q => c2 q.2)]
          rfl
      · rw [if_neg c1, if_neg (fun q => c1 q.1)]
        rfl
def fdS (e0 : Lk) : Nat → List Lk → Option Nat
  | _, [] => none
  | j, e :: l => if e = e0 then some j else fdS e0 (j + 1) l
theorem fdS_cons (e0 e : Lk) (j : Nat) (l : List Lk) : fdS e0 j (e :: l) = if e = e0 then some j else fdS e0 (j + 1) l := rfl
theorem fdS_none {e0 : Lk} : ∀ {l : List Lk} {j : Nat}, fdS e0 j l = none ↔ ¬ e0 ∈ l := by
  intro l
  induction l with
  | nil => intro j; simp [fdS]
  | cons e l ih =>
    intro j
    unfold fdS
    by_cases c : e = e0
    · subst c; simp
    · rw [if_neg c, ih, List.mem_cons]
      constructor
      · rintro h (q | q)
        · exact c q.symm
        · exact h q
      · intro h q
        exact h (Or.inr q)
theorem fdS_some {e0 : Lk} : ∀ {l : List Lk} {j k : Nat}, fdS e0 j l = some k → j ≤ k ∧ l[k - j]? = some e0 := by
  intro l
  induction l with
  | nil => intro j k h; simp [fdS] at h
  | cons e l ih =>
    intro j k h
    unfold fdS at h
    by_cases c : e = e0
    · rw [if_pos c] at h
      cases h
      exact ⟨Nat.le_refl _, by rw [Nat.sub_self]; rw [c]; rfl⟩
    · rw [if_neg c] at h
      obtain ⟨q1, q2⟩ := ih h
      refine ⟨by omega, ?_⟩
      rw [show k - j = (k - (j + 1)) + 1 by omega, List.getElem?_cons_succ]
      exact q2
theorem xFind {f d t : Nat} (hf : f ≤ 60) (hd : d ≤ 9) (ht : t ≤ 99) (hx : rX σ R lv hs ho cc cm L g mo) (hb : ∀ e ∈ L, e.1 ≤ 60 ∧ e.2.1 ≤ 9 ∧ e.2.2 ≤ 99) (hl : L.length ≤ 200) : ∀ (l : List Lk) (j n : Nat), L.drop j = l → j ≤ L.length → l.length < n → gX_findLink_3 K n (nI f) (nI d) (nI t) (nI j) σ = some (o2i (fdS (f, d, t) j l), σ) := by
  have hL := hx.2.2.2.2.2.2.1
  intro l
  induction l with
  | nil =>
    intro j n hdr hj hn
    cases n with
    | zero => simp at hn
    | succ n =>
      rw [gX_findLink_3, hL.1, if_pos (nI_le (dr_nil hdr) (by omega))]
      rfl
  | cons e l ih =>
    intro j n hdr hj hn
    cases n with
    | zero => simp at hn
    | succ n =>
      obtain ⟨h1, h2, h3⟩ := dr_cons hdr
      obtain ⟨e1, e2, e3⟩ := hL.2 j e h2
      obtain ⟨b1, b2, b3⟩ := hb e (List.mem_of_getElem? h2)
      simp only [List.length_cons] at hn
      have hin := inN (r := j) (N := 200) (by omega) (by omega)
      have hcl : (nI j).toNatClampNeg = j := nI_clamp (by omega)
      rw [gX_findLink_3, hL.1, if_neg (nI_ge h1 (by omega))]
      simp only [if_neg hin]
      have q1 : nI e.1 = nI f ↔ e.1 = f := nI_eq (by omega) (by omega)
      have q2 : nI e.2.1 = nI d ↔ e.2.1 = d := nI_eq (by omega) (by omega)
      have q3 : nI e.2.2 = nI t ↔ e.2.2 = t := nI_eq (by omega) (by omega)
      have i1 := ih (j + 1) n h3 (by omega) (by omega)
      simp only [hcl, e1, e2, e3, nI_1, q1, q2, q3, i1]
      obtain ⟨x, y, z⟩ := e
      rw [fdS_cons]
      dsimp only
      by_cases c1 : x = f
      · by_cases c2 : y = d
        · by_cases c3 : z = t
          · subst c1; subst c2; subst c3; simp [o2i]
          · rw [if_pos c1, if_pos c2, if_neg c3, if_neg (fun q => c3 (congrArg (fun v => v.2.2) q))]
        · rw [if_pos c1, if_neg c2, if_neg (fun q => c2 (congrArg (fun v => v.2.1) q))]
      · rw [if_neg c1, if_neg (fun q => c1 (congrArg (fun v => v.1) q))]
theorem mFind {f d t : Nat} (hf : f ≤ 60) (hd : d ≤ 9) (ht : t ≤ 99) (hm : rM τ R lv hs hh cc cm L g mo) (hb : ∀ e ∈ L, e.1 ≤ 60 ∧ e.2.1 ≤ 9 ∧ e.2.2 ≤ 99) (hl : L.length ≤ 200) : ∀ (l : List Lk) (j n : Nat), L.drop j = l → j ≤ L.length → l.length < n → gM_find_3 K n (nI f) (nI d) (nI t) (nI j) τ = some (o2i (fdS (f, d, t) j l), τ) := by
  have hL := hm.2.2.2.2.2.2.1
  intro l
  induction l with
  | nil =>
    intro j n hdr hj hn
    cases n with
    | zero => simp at hn
    | succ n =>
      rw [gM_find_3, hL.1, if_pos (nI_le (dr_nil hdr) (by omega))]
      rfl
  | cons e l ih =>
    intro j n hdr hj hn
    cases n with
    | zero => simp at hn
    | succ n =>
      obtain ⟨h1, h2, h3⟩ := dr_cons hdr
      obtain ⟨e1, e2, e3⟩ := hL.2 j e h2
      obtain ⟨b1, b2, b3⟩ := hb e (List.mem_of_getElem? h2)
      simp only [List.length_cons] at hn
      have hin := inN (r := j) (N := 200) (by omega) (by omega)
      have hcl : (nI j).toNatClampNeg = j := nI_clamp (by omega)
      rw [gM_find_3, hL.1, if_neg (nI_ge h1 (by omega))]
      simp only [if_neg hin]
      have q1 : nI e.1 = nI f ↔ e.1 = f := nI_eq (by omega) (by omega)
      have q2 : nI e.2.1 = nI d ↔ e.2.1 = d := nI_eq (by omega) (by omega)
      have q3 : nI e.2.2 = nI t ↔ e.2.2 = t := nI_eq (by omega) (by omega)
      have i1 := ih (j + 1) n h3 (by omega) (by omega)
      simp only [hcl, e1, e2, e3, nI_1, q1, q2, q3, i1]
      obtain ⟨x, y, z⟩ := e
      rw [fdS_cons]
      dsimp only
      by_cases c1 : x = f
      · by_cases c2 : y = d
        · by_cases c3 : z = t
          · subst c1; subst c2; subst c3; simp [o2i]
          · rw [if_pos c1, if_pos c2, if_neg c3, if_neg (fun q => c3 (congrArg (fun v => v.2.2) q))]
        · rw [if_pos c1, if_neg c2, if_neg (fun q => c2 (congrArg (fun v => v.2.1) q))]
      · rw [if_neg c1, if_neg (fun q => c1 (congrArg (fun v => v.1) q))]
end RO
