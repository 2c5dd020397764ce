/-! words, on -/
