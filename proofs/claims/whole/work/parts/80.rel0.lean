theorem lf_rel_0 {st : mb_S} (h : lf_mi 4 12 st) : lf_rel st lf_XN := by
  have hl : ∀ m, lf_len lf_P0 m = 0 := fun _ => rfl
  have hcnt : ∀ kind, lf_cnt lf_P0 kind = 0 := fun kind => rfl
  have ht : lf_tot lf_P0 = 0 := rfl
  obtain ⟨hf, h5, h6⟩ := h
  refine lf_rel_new (P := lf_P0) (q := lf_Q0) ⟨fun m _ => by rw [hl]; omega, fun m _ k hk => by rw [hl] at hk; omega, by rw [hcnt]; omega, by rw [hcnt]; omega, by rw [hcnt]; omega, by rw [ht]; omega, fun c _ p h => (by cases h), fun c _ g _ t h => (by cases h)⟩ ⟨fun m _ => ?_, fun m _ k hk => by rw [hl] at hk; omega, fun c hc => h5 c hc, fun c hc g hg => h6 _ (by omega)⟩ ⟨fun m _ => rfl, fun m _ k hk => by rw [hl] at hk; omega, fun c hc => ?_, fun c hc g hg => ?_, fun j _ => by rw [hcnt]; rfl, fun o c h => ?_, fun m _ k hk => by rw [hl] at hk; omega, rfl⟩ ?_ ?_ rfl rfl
  · rw [hf.2.1 0 (by decide)]; rfl
  · show (if c < 4 then (-1 : Int32) else 0) = -1
    rw [if_pos hc]
  · show (if 3 * c + g < 12 then (-1 : Int32) else 0) = -1
    rw [if_pos (by omega)]
  · obtain ⟨m, k, hm, hk, -⟩ := h
    rw [hl] at hk; omega
  · rw [hf.1 0 (fun z => z)]; rfl
  · rw [hf.1 2 (fun z => z)]; rfl
