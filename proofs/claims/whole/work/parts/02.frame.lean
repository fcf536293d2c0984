/-! ===== names of the classes: the fields in the order of the slots ===== -/
