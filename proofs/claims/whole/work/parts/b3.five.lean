/-! Part b3: five nodes. -/
theorem k5_all : allB k5B 256 = true := by decide +kernel
