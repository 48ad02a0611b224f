/-! ===== read: the class's, all of it ===== -/
theorem xnd_of {σ : Sg} {nd : List NdT} (h6 : gF σ 2 6 = nI nd.length) (hA : ndsA (gA σ 13) (gA σ 14) (gA σ 15) (gA σ 16) nd) : XNd σ (ndAt nd) nd.length :=
  ⟨h6, fun n hn => ⟨(ndsA_at nd n hA hn).1, (ndsA_at nd n hA hn).2.1, (ndsA_at nd n hA hn).2.2.1⟩⟩
theorem sp_restartX {σ : Sg} {Q : Sg → Prop} (h : ∀ τ, Fr [] [45, 46] σ τ → (∀ k, k < 16 → gL τ 45 k = lN 1 ∧ gA τ 46 k = nI 0) → Q τ) : wp_X1_restart σ Q := by
  refine lq1 (fun f k (τ : Sg) => wl_X1_restart_2 Q f (nI k) τ) (fun k τ => Fr [] [45, 46] σ τ ∧ ∀ i, i < k → gL τ 45 i = lN 1 ∧ gA τ 46 i = nI 0) 16 ?_ ?_ σ ⟨Fr.rf, fun i hi => by omega⟩
  · intro f τ ⟨a1, a2⟩
    show wb_X1_restart_2 _ _ _ _
    exact pk_le 16 16 (fun _ => h τ a1 a2) (fun z => by omega)
  · intro f k τ hk ⟨a1, a2⟩ hs2
    show wb_X1_restart_2 _ _ _ _
    refine pk_le 16 k (fun z => by omega) (fun _ => sp_putLong rfl (by show k < 16; exact hk) (sp_put rfl (by show k < 16; exact hk) ?_))
    intro y ey
    rw [ey, nI_add]
    refine hs2 _ ⟨(a1.stL (by simp)).stA (by simp), fun i hi => ?_⟩
    rw [gL_stA, gL_stL, if_pos rfl, gA_stA, if_pos rfl]
    by_cases q : i = k
    · rw [if_pos q, if_pos q]
      exact ⟨rfl, rfl⟩
    · rw [if_neg q, if_neg q, gA_stL]
      exact a2 i (by omega)
def nd99 (nd : List NdT) : Prop := ipf nd (fun _ => false) 99 = 99
theorem sp_readX {σ : Sg} {nb : Nat} {tp : Nat → Nat} {Q : Int32 → Sg → Prop} (h1 : gF σ 0 1 = nI nb) (hT : Tpe σ nb tp) (hL : PLe σ) (hF : ∀ f τ, PR tp nb 0 s0P = .inl f → Fr [0, 1, 2] [13, 14, 15, 16, 18] σ τ → gF τ 0 2 = nI 1 → gF τ 0 1 = nI nb → Q (-100 - nI f) τ) (hP : ∀ nd f τ, PR tp nb 0 s0P = .inr nd → ipf nd (fun _ => false) 99 = f → f ≠ 99 → Fr [0, 1, 2] [13, 14, 15, 16, 18] σ τ → gF τ 0 2 = nI 2 → gF τ 0 1 = nI nb → Q (-100 - nI f) τ) (hno : ∀ nd τ, PR tp nb 0 s0P = .inr nd → nd99 nd → Rno (ndAt nd) nd.length → Fr [0, 1, 2, 3, 4, 5] [13, 14, 15, 16, 17, 18, 19, 20, 21, 22, 23, 24, 25, 26, 27, 28, 29, 30, 31, 32] σ τ → PLe τ → gF τ 0 2 = nI 0 → gF τ 0 1 = nI nb → Q (-4) τ) (hok : ∀ nd J m J' τ, PR tp nb 0 s0P = .inr nd → nd99 nd → ROk (ndAt nd) nd.length J m J' → Fr [0, 1, 2, 3, 4, 5, 6] [13, 14, 15, 16, 17, 18, 19, 20, 21, 22, 23, 24, 25, 26, 27, 28, 29, 30, 31, 32, 33, 34, 35, 36, 37, 38, 45, 46] σ τ → PLe τ → gF τ 0 2 = nI 0 → gF τ 0 1 = nI 0 → PXa τ (rdQ (ndAt nd) nd.length J m J').1 (fto (rdQ (ndAt nd) nd.length J m J')) (rdV (ndAt nd) nd.length J m J') (dso (fto (rdQ (ndAt nd) nd.length J m J')) (rdV (ndAt nd) nd.length J m J')) → (∀ k, k < 16 → gL τ 45 k = lN 1 ∧ gA τ 46 k = nI 0) → Q (nI (rdQ (ndAt nd) nd.length J m J').1) τ) : wp_X8_read σ Q := by
  refine sp_reads h1 hT (fun f σ1 hp f1 q7 q8 => ?_) (fun nd f σ1 hp hi hne f1 q7 q8 => ?_) (fun nd σ1 hp hi f1 q7 q6 hA => ?_)
  · intro σ5 e5
    have e5 : σ5 = stF σ1 0 2 (gF σ1 1 7) := e5
    rw [q7] at e5
    refine ⟨fun z => absurd rfl z, fun _ => ?_⟩
    show Q (-100 - gF σ5 1 8) σ5
    have : gF σ5 1 8 = nI f := by rw [e5, gF_stF_row (by decide)]; exact q8
    rw [this]
    refine hF f σ5 hp (by rw [e5]; exact (f1.mono (by simp) (by simp)).stF (by simp)) (by rw [e5]; rfl) ?_
    rw [e5, gF_stF, if_pos rfl, if_neg (by decide), f1.F (by decide)]
    exact h1
  · intro σ5 e5
    have e5 : σ5 = stF σ1 0 2 (gF σ1 1 7) := e5
    rw [q7] at e5
    refine ⟨fun z => absurd rfl z, fun _ => ?_⟩
    show Q (-100 - gF σ5 1 8) σ5
    have : gF σ5 1 8 = nI f := by rw [e5, gF_stF_row (by decide)]; exact q8
    rw [this]
    refine hP nd f σ5 hp hi hne (by rw [e5]; exact (f1.mono (by simp) (by simp)).stF (by simp)) (by rw [e5]; rfl) ?_
    rw [e5, gF_stF, if_pos rfl, if_neg (by decide), f1.F (by decide)]
    exact h1
  · intro σ5 e5
    have e5 : σ5 = stF σ1 0 2 (gF σ1 1 7) := e5
    rw [q7] at e5
    refine ⟨fun _ => ?_, fun z => absurd z (by decide)⟩
    show wp_X0_make σ5 _
    obtain ⟨⟨op, hg⟩, n0, n9⟩ := PR_good hT.1 (fun i hi => (hT.2 i hi).1) hp
    have hR := rok_of hg n0 n9
    have hPu := pur_of hg.2.1 hi
    have f5 : Fr [0, 1, 2] [13, 14, 15, 16, 18] σ σ5 := by rw [e5]; exact (f1.mono (by simp) (by simp)).stF (by simp)
    have h02 : gF σ5 0 2 = nI 0 := by rw [e5]; rfl
    have h01 : gF σ5 0 1 = nI nb := by
      rw [e5, gF_stF, if_pos rfl, if_neg (by decide), f1.F (by decide)]
      exact h1
    have hXn : XNd σ5 (ndAt nd) nd.length := by
      refine xnd_of ?_ ?_
      · rw [e5, gF_stF_row (by decide)]; exact q6
      · rw [e5]; exact hA
    refine sp_carryTables hR hXn (fun σ6 f6 hC => sp_findPossible hR hC (fun σ7 f7 hCb => ?_))
    have hPo : XPo σ7 (ndAt nd) nd.length := by
      refine ⟨?_, hCb⟩
      unfold XCa at hC ⊢
      rw [f7.F (by decide), f7.A (by decide), f7.A (by decide)]
      exact hC
    have fr7 : Fr [0, 1, 2, 3] [13, 14, 15, 16, 17, 18, 19, 20, 21] σ σ7 := (f5.mono (by simp) (by simp)).tr ((f6.mono (by simp) (by simp)).tr (f7.mono (by simp) (by simp)))
    have hL7 : PLe σ7 := hL.fr (fr7.R (by decide))
    have z02 : gF σ7 0 2 = nI 0 := by rw [f7.F (by decide), f6.F (by decide)]; exact h02
    have z01 : gF σ7 0 1 = nI nb := by rw [f7.F (by decide), f6.F (by decide)]; exact h01
    refine sp_buildX (K := fun σ12 => wp_X1_restart σ12 (fun σ13 => ∀ σ14 : Sg, σ14 = stF σ13 0 1 (nI 0) → (wp_X7_size σ14 (fun r15 σ16 => Q r15 σ16)))) hR hPu hPo hL7 (fun J m J' τ hro fτ hLτ hXτ => ?_) (fun τ hno' fτ hLτ => ?_)
    · refine sp_restartX (fun τ2 g2 hk2 => ?_)
      intro τ3 e3
      show Q (gF τ3 6 4) τ3
      have h64 : gF τ3 6 4 = nI (rdQ (ndAt nd) nd.length J m J').1 := by
        rw [e3, gF_stF_row (by decide), g2.F (by decide)]; exact hXτ.1
      rw [h64]
      refine hok nd J m J' τ3 hp hi hro ?_ ?_ ?_ ?_ ?_ ?_
      · rw [e3]
        exact Fr.stF ((fr7.mono (by simp) (by simp)).tr ((fτ.mono (by simp) (by simp)).tr (g2.mono (by simp) (by simp)))) (by simp)
      · rw [e3]
        exact (hLτ.fr (g2.R (by decide))).fr rfl
      · rw [e3, gF_stF, if_pos rfl, if_neg (by decide), g2.F (by decide), fτ.F (by decide)]; exact z02
      · rw [e3]; rfl
      · rw [e3]
        refine hXτ.fr ?_ ?_ ?_ ?_ ?_
        · rw [gF_stF_row (by decide), g2.F (by decide)]
        · rw [gA_stF, g2.A (by decide)]
        · rw [gA_stF, g2.A (by decide)]
        · rw [gA_stF, g2.A (by decide)]
        · rw [gL_stF, g2.L (by decide)]
      · rw [e3]; exact hk2
    · refine hno nd τ hp hi hno' ((fr7.mono (by simp) (by simp)).tr (fτ.mono (by simp) (by simp))) hLτ ?_ ?_
      · rw [fτ.F (by decide)]; exact z02
      · rw [fτ.F (by decide)]; exact z01
