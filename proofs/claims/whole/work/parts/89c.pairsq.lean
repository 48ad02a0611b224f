/-! ===== read: both searches against one another (plain) ===== -/
theorem pseq_le {x : Nat → NdT} {N j : Nat} : ∀ k, (pseq x N j).1 ≤ (pseq x N (j + k)).1
  | 0 => Nat.le_refl _
  | k + 1 => Nat.le_trans (pseq_le k) (pst_old (x := x) (N := N) (j := j + k) (s := pseq x N (j + k))).1
theorem pseq_old {x : Nat → NdT} {N j i : Nat} (hi : i < (pseq x N j).1) : ∀ k, (pseq x N (j + k)).2.1 i = (pseq x N j).2.1 i ∧ (pseq x N (j + k)).2.2.1 i = (pseq x N j).2.2.1 i
  | 0 => ⟨rfl, rfl⟩
  | k + 1 => by
    have h := (pst_old (x := x) (N := N) (j := j + k) (s := pseq x N (j + k))).2.2.1 i (Nat.lt_of_lt_of_le hi (pseq_le k))
    have ih := pseq_old hi k
    exact ⟨h.1.trans ih.1, h.2.trans ih.2⟩
/-- both are complete at the same step -/
theorem pseq_end {x : Nat → NdT} {N J K : Nat} (h1 : 4 * (pseq x N J).1 = J) (m1 : Mnq x N J) (h2 : 4 * (pseq x N K).1 = K) (m2 : Mnq x N K) : J = K := by
  rcases Nat.lt_trichotomy J K with q | q | q
  · have := m2 J q; omega
  · exact q
  · have := m1 K q; omega
/-- where one is complete the other does not stop behind -/
theorem pseq_stop {x : Nat → NdT} {N J j : Nat} (h1 : 4 * (pseq x N J).1 = J) (h2 : j / 4 < (pseq x N j).1) (m2 : Mnq x N j) : j < J := by
  rcases Nat.lt_trichotomy J j with q | q | q
  · have := m2 J q; omega
  · subst q; omega
  · exact q
/-- where the class stops the reference is not complete -/
theorem stopX {x : Nat → NdT} {N J j : Nat} (h8 : fbc x N + pbc x N ≤ 8) (h1 : 4 * (pseq x N J).1 = J) (hq : PWq x N J (pseq x N J)) (h60 : ∀ w, w < 2 ^ pbc x N → ctp (pseq x N J).2.1 w (pseq x N J).1 ≤ 60) (h2 : j / 4 < (pseq x N j).1) (m2 : Mnq x N j) (hn : fnd (pseq x N j).2.1 (pseq x N j).2.2.1 (nxw x N (pseq x N j) (j / 4) (j % 4)) (nxs x N (pseq x N j) (j / 4) (j % 4)) (pseq x N j).1 = none) (hc : (pseq x N j).1 = mostq (pbc x N)) : False := by
  have hlt := pseq_stop h1 h2 m2
  have e : (pseq x N (j + 1)).1 = (pseq x N j).1 + 1 := by
    show (pst x N j (pseq x N j)).1 = _
    unfold pst
    rw [hn]
  have hle : (pseq x N (j + 1)).1 ≤ (pseq x N (j + 1 + (J - (j + 1)))).1 := pseq_le _
  rw [show j + 1 + (J - (j + 1)) = J by omega] at hle
  have l1 := len60 hq h60
  have l2 := (lim_of h8 hq h60).1
  unfold mostq at hc
  split at hc <;> omega
