/-! String.length and String.charAt of the six words -/
theorem s_len {σ : Sg} {i : Nat} {Q : Option Value → Sg → Prop} (hi : i < 6) (h : Q (some (.int (nI (eg_len.getD i 0)))) σ) : MetA mJ0_length [.ref (1000 + i)] σ Q := by
  sorry
theorem s_charAt {σ : Sg} {i k : Nat} {Q : Option Value → Sg → Prop} (hi : i < 6) (hk : k < eg_len.getD i 0) (h : Q (some (.int ((eg_byt.getD i []).getD k 0))) σ) : MetA mJ0_charAt [.ref (1000 + i), .int (nI k)] σ Q := by
  sorry
