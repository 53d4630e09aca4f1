/-! the law's own loop -/
theorem Rel0 : Rel x_zero m_zero := by
  refine ⟨0, fun _ => false, fun _ => 0, fun _ => 0, fun _ => 0, fun _ => 0, fun _ => 0, [], [], 0, ⟨rfl, rfl, rfl, rfl, rfl, rfl, ⟨rfl, fun k e h => by simp at h⟩, ⟨rfl, fun k e h => by simp at h⟩, rfl⟩, ⟨rfl, rfl, rfl, rfl, rfl, rfl, ⟨rfl, fun k e h => by simp at h⟩, ⟨rfl, fun k e h => by simp at h⟩, rfl⟩, ⟨fun e he => by simp at he, List.nodup_nil, by simp, fun f d => by simp [cntF]⟩, ⟨fun r t h => by simp at h, fun r h => by simp at h, fun r h => by simp at h⟩, ?_⟩
  exact ⟨by omega, fun j hj => by simp at hj, fun j => Nat.zero_le _, rfl, fun j _ => rfl, fun j => Nat.zero_le _, fun j h1 h2 _ => rfl, by simp⟩
theorem bstep {x : Option (Int32 × XSt)} {m : Option (Int32 × MSt)} {k : XSt → MSt → Option Int32} (h : Sim x m) (hk : ∀ σ τ, Rel σ τ → k σ τ = some 1) : (x.bind fun q => (m.bind fun q' => (if q.1 = q'.1 then k q.2 q'.2 else some (0 : Int32)))) = some 1 := by
  obtain ⟨r, σ, τ, h1, h2, h3⟩ := h
  rw [h1, h2, Option.bind_some, Option.bind_some, if_pos rfl]
  exact hk σ τ h3
set_option maxHeartbeats 1000000 in
theorem law_loopP (xs : Nat → Int32) (L : Nat) (hL : L ≤ 2048) : ∀ (n i : Nat) (σ : XSt) (τ : MSt), Rel σ τ → i ≤ L + 4 → L + 4 < i + 4 * n → gL xs L 300 n (nI i) σ τ = some 1 := by
  intro n
  induction n with
  | zero => intro i σ τ _ h1 h2; omega
  | succ n ih =>
    intro i σ τ hR h1 h2
    have hc : (Int32.ofNat L - 4) < nI i ↔ L < i + 4 := by
      rw [Int32.lt_iff_toInt_lt, show (Int32.ofNat L - 4).toInt = (L : Int) - 4 from pk_sub_toInt (a := L) (b := 4) (by omega) (by omega), nI_toInt (by omega)]
      omega
    rw [gL]
    by_cases c : L < i + 4
    · rw [if_pos (hc.mpr c)]
    · rw [if_neg (fun q => c (hc.mp q))]
      have g0 := inN (r := i) (N := L) (by omega) (by omega)
      have g1 := inN (r := i + 1) (N := L) (by omega) (by omega)
      have g2 := inN (r := i + 2) (N := L) (by omega) (by omega)
      have g3 := inN (r := i + 3) (N := L) (by omega) (by omega)
      have a1 : nI i + 1 = nI (i + 1) := nI_1 i
      have a2 : nI i + 2 = nI (i + 2) := nI_add i 2
      have a3 : nI i + 3 = nI (i + 3) := nI_add i 3
      have a4 : nI i + 4 = nI (i + 4) := nI_add i 4
      simp only [a1, a2, a3, a4, if_neg g0, if_neg g1, if_neg g2, if_neg g3]
      have nx : ∀ σ τ, Rel σ τ → gL xs L 300 n (nI (i + 4)) σ τ = some 1 := fun σ τ h => ih (i + 4) σ τ h (by omega) (by omega)
      have hK : 300 ≤ 300 := Nat.le_refl _
      generalize (xs (nI i).toNatClampNeg &&& (15 : Int32)) = v
      by_cases d0 : v = 0
      · rw [if_pos d0]
        exact bstep (sim_record hR) nx
      · rw [if_neg d0]
        by_cases d1 : v = 1
        · rw [if_pos d1]
          exact bstep (sim_link hK hR _ _ _) nx
        · rw [if_neg d1]
          by_cases d2 : v = 2
          · rw [if_pos d2]
            exact bstep (sim_change hK hR _ _) nx
          · rw [if_neg d2]
            by_cases d3 : v = 3
            · rw [if_pos d3]
              exact bstep (sim_broken hK hR _ _) nx
            · rw [if_neg d3]
              by_cases d4 : v = 4
              · rw [if_pos d4]
                exact bstep (sim_repair hK hR _) nx
              · rw [if_neg d4]
                by_cases d5 : v = 5
                · rw [if_pos d5]
                  exact bstep (sim_chain hK hR _ _) nx
                · rw [if_neg d5]
                  by_cases d6 : v = 6
                  · rw [if_pos d6]
                    exact bstep (sim_ring hR _) nx
                  · rw [if_neg d6]
                    by_cases d7 : v = 7
                    · rw [if_pos d7]
                      exact bstep (sim_host hK hR _) nx
                    · rw [if_neg d7]
                      by_cases d8 : v = 8
                      · rw [if_pos d8]
                        exact bstep (sim_move hK hR _ _) nx
                      · rw [if_neg d8]
                        by_cases d9 : v = 9
                        · rw [if_pos d9]
                          exact bstep (sim_delete hK hR _) nx
                        · rw [if_neg d9]
                          by_cases d10 : v = 10
                          · rw [if_pos d10]
                            exact bstep (sim_times hR _ _) nx
                          · rw [if_neg d10]
                            by_cases d11 : v = 11
                            · rw [if_pos d11]
                              exact bstep (sim_orphan hK hR _) nx
                            · rw [if_neg d11]
                              by_cases d12 : v = 12
                              · rw [if_pos d12]
                                exact bstep (sim_house hR _) nx
                              · rw [if_neg d12]
                                by_cases d13 : v = 13
                                · rw [if_pos d13]
                                  exact bstep (sim_goes hK hR _ _ _) nx
                                · rw [if_neg d13]
                                  exact nx σ τ hR
theorem law_pure (xs : Nat → Int32) (L : Nat) (hL : L ≤ 2048) : ∃ K n : Nat, gL xs L K n 0 x_zero m_zero = some 1 :=
  ⟨300, 600, law_loopP xs L hL 600 0 x_zero m_zero Rel0 (by omega) (by omega)⟩
