/-! ===== read: the reference's, all of it ===== -/
theorem mnd_of {σ : Sg} {nd : List NdT} (h4 : gF σ 10 4 = nI nd.length) (hA : ndsA (gA σ 48) (gA σ 49) (gA σ 50) (gA σ 51) nd) : MNd σ (ndAt nd) nd.length :=
  ⟨h4, fun n hn => ⟨(ndsA_at nd n hA hn).1, (ndsA_at nd n hA hn).2.1, (ndsA_at nd n hA hn).2.2.1⟩⟩
/-- all keys begun anew -/
theorem sp_begins {σ : Sg} {Q : Int32 → Sg → Prop} (h : ∀ τ, Fr [] [79, 81] σ τ → (∀ k, k < 16 → gA τ 81 k = nI 0 ∧ ∀ s, s < 60 → gA τ 79 (60 * k + s) = bI ((1 : Nat).testBit s)) → Q (gF τ 10 39) τ) : ∃ n, wl_X9_read_57 (fun σ9 => wp_X9_read_74 Q σ9) Q n (nI 0) σ := by
  refine lq1 (fun f k (τ : Sg) => wl_X9_read_57 (fun σ9 => wp_X9_read_74 Q σ9) Q f (nI k) τ) (fun k τ => Fr [] [79, 81] σ τ ∧ ∀ i, i < k → gA τ 81 i = nI 0 ∧ ∀ s, s < 60 → gA τ 79 (60 * i + s) = bI ((1 : Nat).testBit s)) 16 ?_ ?_ σ ⟨Fr.rf, fun i hi => by omega⟩
  · intro f τ ⟨a1, a2⟩
    show wb_X9_read_57 _ _ _ _ _
    exact pk_le 16 16 (fun _ => h τ a1 a2) (fun z => by omega)
  · intro f k τ hk ⟨a1, a2⟩ hs2
    show wb_X9_read_57 _ _ _ _ _
    refine pk_le 16 k (fun z => by omega) (fun _ => sp_begin rfl hk (fun τ1 f1 b1 b2 b3 b4 => ?_))
    intro y ey
    rw [ey, nI_add]
    refine hs2 _ ⟨a1.tr f1, fun i hi => ?_⟩
    by_cases q : i = k
    · rw [q]
      exact ⟨b3, b1⟩
    · obtain ⟨c1, c2⟩ := a2 i (by omega)
      refine ⟨by rw [b4 i q]; exact c1, fun s hs => ?_⟩
      rw [b2 _ (fun t ht => by omega)]
      exact c2 s hs
def FrM (σ τ : Sg) : Prop := Fr [10] [48, 49, 50, 51, 52, 53, 54, 55, 56, 57, 58, 59, 60, 61, 62, 63, 64, 65, 66, 67, 68, 69, 70] σ τ ∧ ∀ k, k ∈ [1, 38, 39, 51] → gF τ 10 k = gF σ 10 k
theorem sp_readM {σ : Sg} {nb : Nat} {tp : Nat → Nat} {Q : Int32 → Sg → Prop} (hnb : nb ≤ 60) (h1 : gF σ 10 1 = nI nb) (hT : ∀ i, i < nb → tp i < 256 ∧ gA σ 47 i = sby (tp i)) (hF : ∀ f τ, PR tp nb 0 s0P = .inl f → FrM σ τ → gF τ 10 2 = nI 1 → Q (-100 - nI f) τ) (hP : ∀ nd f τ, PR tp nb 0 s0P = .inr nd → ipf nd (fun _ => false) 99 = f → f < 60 → FrM σ τ → gF τ 10 2 = nI 2 → Q (-100 - nI f) τ) (hno : ∀ nd τ, PR tp nb 0 s0P = .inr nd → nd99 nd → Rno (ndAt nd) nd.length → FrM σ τ → gF τ 10 2 = nI 0 → Q (-4) τ) (hok : ∀ nd J m J' τ, PR tp nb 0 s0P = .inr nd → nd99 nd → ROk (ndAt nd) nd.length J m J' → Fr [10] [48, 49, 50, 51, 52, 53, 54, 55, 56, 57, 58, 59, 60, 61, 62, 63, 64, 65, 66, 67, 68, 69, 70, 71, 72, 73, 74, 75, 76, 77, 79, 81] σ τ → gF τ 10 51 = gF σ 10 51 → gF τ 10 2 = nI 0 → gF τ 10 1 = nI 0 → gF τ 10 38 = nI 1 → gF τ 10 39 = nI (rdQ (ndAt nd) nd.length J m J').1 → (∀ s, s < (rdQ (ndAt nd) nd.length J m J').1 → gA τ 73 s = nI (rdV (ndAt nd) nd.length J m J' s) ∧ gA τ 72 s = bI (decide (rdV (ndAt nd) nd.length J m J' s % 2 = 1)) ∧ ∀ e, e < 4 → gA τ 71 (4 * s + e) = nI (fto (rdQ (ndAt nd) nd.length J m J') s e)) → (∀ k, k < 16 → gA τ 81 k = nI 0 ∧ ∀ s, s < 60 → gA τ 79 (60 * k + s) = bI ((1 : Nat).testBit s)) → Q (nI (rdQ (ndAt nd) nd.length J m J').1) τ) : wp_X9_read σ Q := by
  intro σ1 e1
  have s47 : ∀ i, i < nb → tp i < 256 ∧ gA σ1 47 i = sby (tp i) := by rw [e1]; exact hT
  have s1 : gF σ1 10 1 = nI nb := by rw [e1]; exact h1
  have s2 : gF σ1 10 2 = nI 0 := by rw [e1]; rfl
  have sk : ∀ k, k ≠ 2 → gF σ1 10 k = gF σ 10 k := fun k hk => by rw [e1, gF_stF, if_pos rfl, if_neg hk]
  have sf : Fr [10] [] σ σ1 := by rw [e1]; exact Fr.rf.stF (by simp)
  clear e1
  refine sp_parse hnb s1 s47 (fun f τ hp _ fτ gτ q2 q3 => ?_) (fun nd op τ hp hg n0 n9 hRP => ?_)
  · refine ⟨fun z => absurd rfl z, fun _ => ?_⟩
    rw [q3]
    refine hF f τ hp ⟨(sf.mono (by simp) (by simp)).tr (fτ.mono (by simp) (by simp)), fun k hk => ?_⟩ q2
    have hk' : k ∉ [2, 3, 4, 9, 11] ∧ k ≠ 2 := by
      simp only [List.mem_cons, List.not_mem_nil, or_false] at hk ⊢
      omega
    rw [gτ k hk'.1, sk k hk'.2]
  · obtain ⟨fτ, gτ, r4, r9, r11, rA, -, -⟩ := hRP
    have hkeep : ∀ k, k ∈ [1, 38, 39, 51] → k ∉ [4, 9, 11] ∧ k ∉ [2, 3] ∧ k ∉ [15, 16, 18, 19, 21, 22] ∧ k ∉ [27, 36] ∧ k ≠ 2 := fun k hk => by
      simp only [List.mem_cons, List.not_mem_nil, or_false] at hk ⊢
      omega
    refine sp_isPure n9 r4 rA hg.2.1 (Gnd_kids hg) (fun h99 τ1 f1 => ?_) (fun f hf f60 τ1 f1 g1 q2 q3 => ?_)
    · refine ⟨bI_bl true, fun _ => ?_, fun z => absurd z (by decide)⟩
      have hR := rok_of hg n0 n9
      have hPu := pur_of hg.2.1 h99
      have hMn : MNd τ1 (ndAt nd) nd.length := by
        refine mnd_of ?_ ?_
        · rw [f1.F (by decide)]; exact r4
        · rw [f1.A (by decide), f1.A (by decide), f1.A (by decide), f1.A (by decide)]; exact rA
      refine sp_prepare hR hPu hMn (fun τ2 f2 g2 hC => ?_)
      have fr2 : Fr [10] [48, 49, 50, 51, 52, 53, 54, 55, 56, 57, 58, 59, 60, 61] σ τ2 := (sf.mono (by simp) (by simp)).tr ((fτ.mono (by simp) (by simp)).tr ((f1.mono (by simp) (by simp)).tr (f2.mono (by simp) (by simp))))
      have k2 : ∀ k, k ∈ [1, 38, 39, 51] → gF τ2 10 k = gF σ 10 k := fun k hk => by
        obtain ⟨a, b, c, d, e⟩ := hkeep k hk
        rw [g2 k c, f1.F (by decide), gτ k a, sk k e]
      have z2 : gF τ2 10 2 = nI 0 := by
        rw [g2 2 (by decide), f1.F (by decide), gτ 2 (by decide)]; exact s2
      refine sp_buildM (K := fun σ9 => ∀ σ10 : Sg, σ10 = stF σ9 10 1 (nI 0) → (∀ σ11 : Sg, σ11 = stF σ10 10 38 (nI 1) → (∃ n, wl_X9_read_57 (fun σ9 => wp_X9_read_74 Q σ9) Q n (nI 0) σ11))) hR hPu hC (fun J m J' τ3 hro f3 g3 q39 q7 => ?_) (fun τ3 hno' f3 g3 => ?_)
      · intro σ10 d1 σ11 d2
        have hd : ∀ k, gF σ11 10 k = if k = 38 then nI 1 else if k = 1 then nI 0 else gF τ3 10 k := fun k => by
          rw [d2, gF_stF, if_pos rfl, d1, gF_stF, if_pos rfl]
        have fd : Fr [10] [] τ3 σ11 := by rw [d2, d1]; exact (Fr.rf.stF (by simp)).stF (by simp)
        refine sp_begins (fun τ5 f5 hk5 => ?_)
        have h39 : gF τ5 10 39 = nI (rdQ (ndAt nd) nd.length J m J').1 := by
          rw [f5.F (by decide), hd 39, if_neg (by decide), if_neg (by decide)]; exact q39
        rw [h39]
        refine hok nd J m J' τ5 hp h99 hro ?_ ?_ ?_ ?_ ?_ h39 (fun s hs => ?_) hk5
        · exact (fr2.mono (by simp) (by simp)).tr ((f3.mono (by simp) (by simp)).tr ((fd.mono (by simp) (by simp)).tr (f5.mono (by simp) (by simp))))
        · rw [f5.F (by decide), hd 51, if_neg (by decide), if_neg (by decide), g3 51 (by decide)]
          exact k2 51 (by decide)
        · rw [f5.F (by decide), hd 2, if_neg (by decide), if_neg (by decide), g3 2 (by decide)]
          exact z2
        · rw [f5.F (by decide), hd 1, if_neg (by decide), if_pos rfl]
        · rw [f5.F (by decide), hd 38, if_pos rfl]
        · rw [f5.A (by decide), f5.A (by decide), f5.A (by decide), fd.A (by decide), fd.A (by decide), fd.A (by decide)]
          exact q7 s hs
      · refine hno nd τ3 hp h99 hno' ⟨(fr2.mono (by simp) (by simp)).tr (f3.mono (by simp) (by simp)), fun k hk => ?_⟩ ?_
        · rw [g3 k (hkeep k hk).2.2.2.1]
          exact k2 k hk
        · rw [g3 2 (by decide)]; exact z2
    · refine ⟨bI_bl false, fun z => absurd rfl z, fun _ => ?_⟩
      rw [q3]
      refine hP nd f τ1 hp hf f60 ⟨(sf.mono (by simp) (by simp)).tr ((fτ.mono (by simp) (by simp)).tr (f1.mono (by simp) (by simp))), fun k hk => ?_⟩ q2
      obtain ⟨a, b, c, d, e⟩ := hkeep k hk
      rw [g1 k b, gτ k a, sk k e]
