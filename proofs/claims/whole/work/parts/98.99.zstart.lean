theorem op_start : st_start IN := by
  intro x P hP
  refine cl_start P (fun V σ4 hx hC => hP σ4 (fun m hm P2 h2 => ?_))
  subst hx
  refine mo_start hm P2 (fun ma σ hT hma hI hA hw => h2 σ ⟨V, a_0, ma, rfl, ?_, hT, hma, ?_⟩)
  · have hn : non V a_0 σ4 := CI_non hC rfl
    have X : xf V.x (V.O V.uw) (V.O 7) σ4 σ := xf_w hw
    have nx := nn_s hC.ty
    have I : ∀ {c y} f, z_ty σ4 c = some y → z_I σ f c = z_I σ4 f c := fun f hc => hw.I f _ (nn_s hc) (fun z => z)
    exact CI_off (V := V) (a := a_0) hC X (p := V.p0) ((hw.R _ _ nx (fun z => z)).trans hn.rp) ((hw.ty _ (nn_s hn.ty)).trans hn.ty) ((I _ hn.ty).trans hn.i1) ((I _ hn.ty).trans hn.i6) ((I _ hn.ty).trans hn.i7) ((I _ hC.ty).trans hC.n0) ((I _ hC.ty).trans hC.pl) ((I _ hC.ty).trans hC.n4) (Nat.zero_le _) (fun i hi => absurd hi (Nat.not_lt_zero i)) ((I _ hC.ty).trans hC.ds) ((I _ hC.su.1.1).trans hC.su.2.1) ((I _ hC.sl.1.1).trans hC.sl.2.1)
  · have h0 : ∀ f, f ≠ 807 → z_I σ f m = 0 := fun f hf => by rw [hI, if_neg hf]
    refine ⟨h0 801 (by decide), fun i hi => absurd hi (Nat.not_lt_zero i), ?_, ?_, ⟨fun _ _ => (0, 0), fun _ => 0, fun r j hr hj => ⟨(show 0 < 1000000000 by decide), ?_⟩, fun r hr => ⟨hA 42 (by decide) (by decide) r, Nat.zero_le _⟩⟩, ?_⟩
    · show z_I σ 807 m = -1
      rw [hI, if_pos rfl]
    · have : (mu_of σ m ma).1 806 = 0 := h0 806 (by decide)
      rw [if_neg (fun z => by rw [this] at z; exact absurd z (by decide))]
      rfl
    · show mo_at (mu_of σ m ma) r j 0 0
      refine ⟨?_, ?_, ?_, ?_⟩
      · rw [show nI (0 / 1000000) = 0 from rfl]; exact hA 40 (by decide) (by decide) _
      · rw [show nI (0 / 1000 % 1000) = 0 from rfl]; exact hA 40 (by decide) (by decide) _
      · rw [show nI (0 % 1000) = 0 from rfl]; exact hA 40 (by decide) (by decide) _
      · rw [show Int32.ofInt 0 = 0 from rfl]; exact hA 41 (by decide) (by decide) _
    · show if false = true then _ else (mu_of σ m ma).1 808 = 0 ∧ (mu_of σ m ma).1 831 = 0
      rw [if_neg (by decide)]
      exact ⟨h0 808 (by decide), h0 831 (by decide)⟩
