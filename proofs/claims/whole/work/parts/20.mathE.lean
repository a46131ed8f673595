/-! the court as it is made -/
def σ0 : ST := mkS 0 0 0 0 5 0 (fun _ => 0) (fun _ => 0) (fun _ => 0) (fun _ => 0) (fun _ => 0) (fun _ => 0) (fun _ => 0) (fun _ => 0) (fun _ => 0) (fun _ => 0) (fun _ => 0)
def σ1 : ST := bgS σ0 4
theorem Ok_σ1 : Ok σ1 := Ok_bg (σ := σ0) (q := 4) (by decide) (by decide)
